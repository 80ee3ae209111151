import java.util.Random;

/** Drawn runs of calls, each answer held against the slow model's; the seeds are fixed. */
public final class ModelTest {
    private static final Due due = new Due();
    private static final int RUNS = 1500;
    private static final int[] WILD = {Integer.MIN_VALUE, Integer.MIN_VALUE + 1, -1000, -65, -2, -1, 61, 100, 120, 128,
        1000, 1000000, Integer.MAX_VALUE - 1, Integer.MAX_VALUE};

    private final Random random;
    private final StarSenders x = new StarSenders();
    private final Model model = new Model();
    private final int run;
    private final int style;

    private ModelTest(int run) {
        this.run = run;
        this.style = run % 4;
        this.random = new Random(run);
    }

    public static void main(String[] args) {
        new ModelTest(0).opensAsManyWindowsAsCanBe();
        int[] seen = new int[9];
        for (int run = 0; run < RUNS; run++) {
            ModelTest t = new ModelTest(run);
            t.prepare();
            for (int call = 0; call < 500; call++) {
                t.oneCall();
                if (call % 10 == 9) {
                    t.readsAgree();
                }
            }
            for (int what = 0; what < 9; what++) {
                seen[what] += t.model.all(what);
            }
        }
        for (int what = 2; what < 9; what++) {
            due.holds("all(" + what + ") was seen to be more than a few", seen[what] > RUNS);
        }
        due.end();
    }

    /** Once counter 31 is taken, 32 .. 63 may open while 0 .. 30, opened behind it, are open still. */
    private void opensAsManyWindowsAsCanBe() {
        int[][] settings = {{0, 6}, {1, 1}, {2, 9}};
        for (int[] s : settings) {
            is("sets", x.sets(s[0], s[1]), model.sets(s[0], s[1]));
        }
        for (int i = 0; i < 6; i++) {
            is("gain", x.gain(i, 0, 60), model.gain(i, 0, 60));
            is("sender", x.sender(i, 3, 1), model.sender(i, 3, 1));
        }
        sendAllFrom(31, 31);
        pass(5);
        for (int from = 0; from <= 30; from += 8) {
            sendAllFrom(from, Math.min(from + 7, 30));
        }
        is("LAST", x.of(5, 4), 31);
        for (int from = 32; from <= 63; from += 8) {
            sendAllFrom(from, from + 7);
        }
        for (int i = 0; i < 6; i++) {
            is("sender", x.sender(i, 3, 0), model.sender(i, 3, 0));
            is("sends", x.sends(i), model.sends(i));
        }
        pass(1);
        is("WINDOWS", x.all(1), 6 * (31 + 32 + 1));
        readsAgree();
        for (int k = 0; k < 20; k++) {
            pass(1);
            readsAgree();
        }
        is("none refused", x.told(0) + x.told(1) + x.told(2), 0);
    }

    private void sendAllFrom(int from, int to) {
        for (int i = 0; i < 6; i++) {
            is("sender", x.sender(i, 2, from), model.sender(i, 2, from));
            for (int letter = from; letter <= to; letter++) {
                is("sends", x.sends(i), model.sends(i));
            }
        }
        pass(1);
    }

    private void pass(int m) {
        is("ticks(" + m + ")", x.ticks(m), model.ticks(m));
        is("digest()", x.digest(), model.digest());
    }

    private int upTo(int most) {
        return random.nextInt(most + 1);
    }

    /** Mostly 0 .. most, now and then just beyond or far off. */
    private int about(int most) {
        int kind = random.nextInt(60);
        if (kind == 0) {
            return WILD[random.nextInt(WILD.length)];
        }
        return kind == 1 ? random.nextBoolean() ? -1 : most + 1 : upTo(most);
    }

    private void is(String call, long got, long want) {
        due.is("run " + run + ": " + call, got, want);
    }

    private void prepare() {
        int n = 1 + upTo(5);
        int g = 1 + upTo(3);
        int w = 1 + upTo(8);
        is("sets", x.sets(0, n), model.sets(0, n));
        is("sets", x.sets(1, g), model.sets(1, g));
        is("sets", x.sets(2, w), model.sets(2, w));
        if (style == 1) {
            for (int i = 0; i < n; i++) {
                is("sender", x.sender(i, 3, 1), model.sender(i, 3, 1));
            }
        }
        if (style != 0) {
            int seed = upTo(999999);
            is("draw", x.draw(seed), model.draw(seed));
        }
        if (style == 2) {
            is("gate", x.gate(0, 1, 40), model.gate(0, 1, 40));
        }
    }

    private void oneCall() {
        int kind = random.nextInt(100);
        if (kind < 35) {
            days();
        } else if (kind < 60) {
            passing();
        } else if (kind < 75) {
            telling();
        } else if (kind < 92) {
            texting();
        } else {
            asking();
        }
        is("digest()", x.digest(), model.digest());
    }

    private void days() {
        int i = about(model.n - 1);
        if (random.nextInt(4) > 0) {
            is("sends(" + i + ")", x.sends(i), model.sends(i));
        } else {
            is("again(" + i + ")", x.again(i), model.again(i));
        }
    }

    private void passing() {
        int m = random.nextInt(30) == 0 ? about(99) : 1 + upTo(4);
        is("ticks(" + m + ")", x.ticks(m), model.ticks(m));
    }

    private void telling() {
        int i = about(model.n - 1);
        int j = about(model.g - 1);
        switch (random.nextInt(12)) {
            case 0, 1: {
                int what = about(1);
                int v = about(what == 0 ? 5 : 40);
                is("gate", x.gate(j, what, v), model.gate(j, what, v));
                break;
            }
            case 2, 3, 4: {
                int v = about(60);
                is("gain", x.gain(i, j, v), model.gain(i, j, v));
                break;
            }
            case 5, 6, 7, 8: {
                int what = about(3);
                int v = about(what == 0 ? 5 : what == 1 ? 4 : what == 2 ? 63 : 1);
                is("sender", x.sender(i, what, v), model.sender(i, what, v));
                break;
            }
            case 9:
                is("renews", x.renews(i), model.renews(i));
                break;
            case 10: {
                int seed = about(999999);
                is("draw", x.draw(seed), model.draw(seed));
                break;
            }
            default: {
                int what = random.nextInt(5) == 0 ? about(2) : 3;
                int v = about(9);
                is("sets", x.sets(what, v), model.sets(what, v));
            }
        }
    }

    private void texting() {
        if (random.nextInt(20) == 0) {
            int c = about(127);
            is("type", x.type(c), model.type(c));
        }
        if (random.nextInt(3) > 0) {
            String text = drawnText();
            is("clear()", x.clear(), model.clear());
            for (int k = 0; k < text.length(); k++) {
                is("type", x.type(text.charAt(k)), model.type(text.charAt(k)));
            }
        }
        is("does() of '" + model.text + "'", x.does(), model.does());
    }

    private String drawnText() {
        StringBuilder b = new StringBuilder();
        int orders = random.nextInt(6) == 0 ? 45 : upTo(8);
        boolean burst = random.nextInt(3) == 0;
        boolean tight = random.nextInt(3) == 0;
        for (int k = 0; k < orders; k++) {
            drawOrder(b, burst, tight);
        }
        if (random.nextInt(3) == 0 && b.length() > 0) {
            spoil(b);
        }
        return b.length() > 125 ? b.substring(0, 125) : b.toString();
    }

    private void drawOrder(StringBuilder b, boolean burst, boolean tight) {
        char kind = "ss++gblzr".charAt(random.nextInt(burst ? 2 : 9));
        StringBuilder order = new StringBuilder();
        order.append(kind);
        if ("szrg".indexOf(kind) >= 0) {
            order.append(blanks(tight)).append(upTo(model.n - 1));
        }
        if ("gbl".indexOf(kind) >= 0) {
            order.append(blanks(tight)).append(upTo(model.g - 1));
        }
        if ("gbl+".indexOf(kind) >= 0) {
            int most = kind == 'g' ? 60 : kind == 'b' ? 40 : kind == 'l' ? 5 : random.nextInt(4) == 0 ? 99 : 5;
            int k = upTo(most);
            order.append(blanks(tight)).append(k < 10 && random.nextInt(4) == 0 ? "0" : "").append(k);
        }
        b.append(order).append(blanks(tight)).append(';').append(blanks(tight));
    }

    private String blanks(boolean tight) {
        return tight ? "" : " ".repeat(Math.max(0, upTo(3) - 1));
    }

    private void spoil(StringBuilder b) {
        int place = random.nextInt(b.length());
        switch (random.nextInt(4)) {
            case 0: b.setLength(place); break;
            case 1: b.deleteCharAt(place); break;
            case 2: b.insert(place, "0123456789 ;s+gblzrx".charAt(random.nextInt(20))); break;
            default: b.setCharAt(place, (char) upTo(127)); break;
        }
    }

    private void asking() {
        int i = about(model.n - 1);
        int j = about(model.g - 1);
        int k = about(9);
        int what = about(8);
        is("of", x.of(i, what), model.of(i, what));
        is("margin", x.margin(i, k), model.margin(i, k));
        is("hears", x.hears(i, j), model.hears(i, j));
        is("at", x.at(j, what), model.at(j, what));
        is("all", x.all(what), model.all(what));
        is("window", x.window(k, what), model.window(k, what));
        is("copy", x.copy(k, what), model.copy(k, what));
        is("told", x.told(what), model.told(what));
    }

    private void readsAgree() {
        for (int i = 0; i < model.n; i++) {
            for (int k = 0; k <= 4; k++) {
                is("margin", x.margin(i, k), model.margin(i, k));
            }
            for (int j = 0; j < model.g; j++) {
                is("hears", x.hears(i, j), model.hears(i, j));
            }
        }
        for (int k = 0; k <= model.windows.size(); k++) {
            for (int what = 0; what <= 3; what++) {
                is("window(" + k + ", " + what + ")", x.window(k, what), model.window(k, what));
            }
        }
        for (int k = 0; k <= model.copies.size(); k++) {
            for (int what = 0; what <= 2; what++) {
                is("copy(" + k + ", " + what + ")", x.copy(k, what), model.copy(k, what));
            }
        }
    }
}
