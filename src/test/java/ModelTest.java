import java.util.Random;

/**
 * Drawn runs of calls, each answer held against the slow model's; the seeds are fixed. A run has 512
 * calls, as the document lets what later ones answer be free.
 */
public final class ModelTest {
    private static final Due due = new Due();
    private static final int RUNS = 8000;
    private static final int CALLS = 512;
    private static final int[] WILD = {Integer.MIN_VALUE, Integer.MIN_VALUE + 1, -1000, -65, -2, -1, 61, 100, 120, 128,
        1000, 1000000, Integer.MAX_VALUE - 1, Integer.MAX_VALUE};

    private final Random random;
    private final StarSenders x = new StarSenders();
    private final Model model = new Model();
    private final int run;
    private final int style;
    private int calls;

    private ModelTest(int run) {
        this.run = run;
        this.style = run % 4;
        this.random = new Random(run);
    }

    public static void main(String[] args) {
        int[] seen = new int[9];
        for (int run = 0; run < RUNS; run++) {
            ModelTest t = new ModelTest(run);
            t.prepare();
            while (t.calls < CALLS) {
                t.oneStep();
            }
            for (int what = 0; what < 9; what++) {
                seen[what] += t.model.all(what);
            }
        }
        for (int what = 2; what < 9; what++) {
            due.holds("all(" + what + ") was seen to be more than a few", seen[what] > RUNS);
        }
        due.end();
    }

    /** One call on both; behind the last that an object is used for it does nothing. */
    private void same(String name, int... a) {
        if (calls == CALLS) {
            return;
        }
        calls++;
        long got = onClass(name, a);
        long want = onModel(name, a);
        if (got != want) {
            due.is("run " + run + ", call " + calls + ": " + name + java.util.Arrays.toString(a)
                + (name.equals("does") ? " of '" + model.text + "'" : ""), got, want);
        } else {
            due.is(name, got, want);
        }
    }

    private long onClass(String name, int[] a) {
        return switch (name) {
            case "sets" -> x.sets(a[0], a[1]);
            case "gate" -> x.gate(a[0], a[1], a[2]);
            case "gain" -> x.gain(a[0], a[1], a[2]);
            case "draw" -> x.draw(a[0]);
            case "sender" -> x.sender(a[0], a[1], a[2]);
            case "sends" -> x.sends(a[0]);
            case "again" -> x.again(a[0]);
            case "ticks" -> x.ticks(a[0]);
            case "renews" -> x.renews(a[0]);
            case "of" -> x.of(a[0], a[1]);
            case "margin" -> x.margin(a[0], a[1]);
            case "hears" -> x.hears(a[0], a[1]);
            case "at" -> x.at(a[0], a[1]);
            case "all" -> x.all(a[0]);
            case "window" -> x.window(a[0], a[1]);
            case "copy" -> x.copy(a[0], a[1]);
            case "type" -> x.type(a[0]);
            case "clear" -> x.clear();
            case "does" -> x.does();
            case "told" -> x.told(a[0]);
            default -> x.digest();
        };
    }

    private long onModel(String name, int[] a) {
        return switch (name) {
            case "sets" -> model.sets(a[0], a[1]);
            case "gate" -> model.gate(a[0], a[1], a[2]);
            case "gain" -> model.gain(a[0], a[1], a[2]);
            case "draw" -> model.draw(a[0]);
            case "sender" -> model.sender(a[0], a[1], a[2]);
            case "sends" -> model.sends(a[0]);
            case "again" -> model.again(a[0]);
            case "ticks" -> model.ticks(a[0]);
            case "renews" -> model.renews(a[0]);
            case "of" -> model.of(a[0], a[1]);
            case "margin" -> model.margin(a[0], a[1]);
            case "hears" -> model.hears(a[0], a[1]);
            case "at" -> model.at(a[0], a[1]);
            case "all" -> model.all(a[0]);
            case "window" -> model.window(a[0], a[1]);
            case "copy" -> model.copy(a[0], a[1]);
            case "type" -> model.type(a[0]);
            case "clear" -> model.clear();
            case "does" -> model.does();
            case "told" -> model.told(a[0]);
            default -> model.digest();
        };
    }

    private int upTo(int most) {
        return random.nextInt(most + 1);
    }

    /** Mostly 0 .. most, now and then just beyond or far off. */
    private int about(int most) {
        int kind = random.nextInt(60);
        if (kind == 0) {
            return WILD[random.nextInt(WILD.length)];
        }
        return kind == 1 ? random.nextBoolean() ? -1 : most + 1 : upTo(most);
    }

    private void prepare() {
        same("sets", 0, 1 + upTo(5));
        same("sets", 1, 1 + upTo(3));
        same("sets", 2, 1 + upTo(8));
        if (style == 1) {
            for (int i = 0; i < model.n; i++) {
                same("sender", i, 3, 1);
            }
        }
        if (style != 0) {
            same("draw", upTo(999999));
        }
        if (style == 2) {
            same("gate", 0, 1, 40);
        }
    }

    private void oneStep() {
        int kind = random.nextInt(100);
        if (kind < 40) {
            days();
        } else if (kind < 65) {
            same("ticks", random.nextInt(30) == 0 ? about(99) : 1 + upTo(4));
        } else if (kind < 80) {
            telling();
        } else if (kind < 86) {
            texting();
        } else if (kind < 95) {
            asking();
        } else {
            looking();
        }
        if (random.nextInt(3) == 0 || calls == CALLS - 1) {
            same("digest");
        }
    }

    private void days() {
        int i = about(model.n - 1);
        int times = random.nextInt(20) == 0 ? 30 : 1;
        for (int k = 0; k < times; k++) {
            same(random.nextInt(4) > 0 ? "sends" : "again", i);
        }
    }

    private void telling() {
        int i = about(model.n - 1);
        int j = about(model.g - 1);
        int kind = random.nextInt(12);
        if (kind < 2) {
            int what = about(1);
            same("gate", j, what, about(what == 0 ? 5 : 40));
        } else if (kind < 5) {
            same("gain", i, j, about(60));
        } else if (kind < 9) {
            int what = about(3);
            same("sender", i, what, about(what == 0 ? 5 : what == 1 ? 4 : what == 2 ? 63 : 1));
        } else if (kind == 9) {
            same("renews", i);
        } else if (kind == 10) {
            same("draw", about(999999));
        } else {
            same("sets", random.nextInt(5) == 0 ? about(2) : 3, about(9));
        }
    }

    private void texting() {
        if (random.nextInt(20) == 0) {
            same("type", about(127));
        }
        if (random.nextInt(3) > 0) {
            String text = drawnText();
            same("clear");
            for (int k = 0; k < text.length(); k++) {
                same("type", text.charAt(k));
            }
        }
        same("does");
    }

    private String drawnText() {
        StringBuilder b = new StringBuilder();
        int orders = random.nextInt(8) == 0 ? 45 : upTo(6);
        boolean burst = random.nextInt(3) == 0;
        boolean tight = random.nextInt(3) == 0;
        for (int k = 0; k < orders; k++) {
            drawOrder(b, burst, tight);
        }
        if (random.nextInt(3) == 0 && b.length() > 0) {
            spoil(b);
        }
        return b.length() > 125 ? b.substring(0, 125) : b.toString();
    }

    private void drawOrder(StringBuilder b, boolean burst, boolean tight) {
        char kind = "ss++gblzr".charAt(random.nextInt(burst ? 2 : 9));
        StringBuilder order = new StringBuilder();
        order.append(kind);
        if ("szrg".indexOf(kind) >= 0) {
            order.append(blanks(tight)).append(upTo(model.n - 1));
        }
        if ("gbl".indexOf(kind) >= 0) {
            order.append(blanks(tight)).append(upTo(model.g - 1));
        }
        if ("gbl+".indexOf(kind) >= 0) {
            int most = kind == 'g' ? 60 : kind == 'b' ? 40 : kind == 'l' ? 5 : random.nextInt(4) == 0 ? 99 : 5;
            int k = upTo(most);
            order.append(blanks(tight)).append(k < 10 && random.nextInt(4) == 0 ? "0" : "").append(k);
        }
        b.append(order).append(blanks(tight)).append(';').append(blanks(tight));
    }

    private String blanks(boolean tight) {
        return tight ? "" : " ".repeat(Math.max(0, upTo(3) - 1));
    }

    private void spoil(StringBuilder b) {
        int place = random.nextInt(b.length());
        switch (random.nextInt(4)) {
            case 0: b.setLength(place); break;
            case 1: b.deleteCharAt(place); break;
            case 2: b.insert(place, "0123456789 ;s+gblzrx".charAt(random.nextInt(20))); break;
            default: b.setCharAt(place, (char) upTo(127)); break;
        }
    }

    private void asking() {
        switch (random.nextInt(8)) {
            case 0: same("of", about(model.n - 1), about(7)); break;
            case 1: same("margin", about(model.n - 1), about(4)); break;
            case 2: same("hears", about(model.n - 1), about(model.g - 1)); break;
            case 3: same("at", about(model.g - 1), about(3)); break;
            case 4: same("all", about(8)); break;
            case 5: same("window", about(model.windows.size()), about(3)); break;
            case 6: same("copy", about(model.copies.size()), about(2)); break;
            default: same("told", about(6)); break;
        }
    }

    /** What the digest does not tell: a sender's margins, a window, a copy. */
    private void looking() {
        int i = upTo(model.n - 1);
        int window = upTo(model.windows.size());
        int copy = upTo(model.copies.size());
        for (int k = 0; k < 4; k++) {
            same("margin", i, k);
            same("window", window, k);
        }
        for (int what = 0; what < 3; what++) {
            same("copy", copy, what);
        }
    }
}
