/** Promises 1 to 6: a new object, sets, gate, gain, draw, sender. */
public final class ToldTest {
    private static final Due due = new Due();

    public static void main(String[] args) {
        newObject();
        setsAnswersWhatItWas();
        setsLeavesTextAndRefusals();
        setsMakesAllElseNew();
        setsRefuses();
        gateSets();
        gainSets();
        draws();
        senderSets();
        due.end();
    }

    private static void isNew(String when, StarSenders x, int n, int g) {
        for (int i = 0; i < n; i++) {
            due.senderIs(when, x, i, 0, 4, 0, 0, 63, 0, 0, 0);
            due.marginsAre(when, x, i);
            for (int j = 0; j < g; j++) {
                due.is(when + ": hears(" + i + ", " + j + ")", x.hears(i, j), 28);
            }
        }
        for (int j = 0; j < g; j++) {
            due.gateIs(when, x, j, 0, 0, 10, 0);
        }
        due.allIs(when, x, 0, 0, 0, 0, 0, 0, 0, 0, 0);
        due.windowIs(when, x, 0, -1, -1, -1, -1);
        due.copyIs(when, x, 0, -1, -1, -1);
    }

    private static void newObject() {
        StarSenders x = new StarSenders();
        isNew("new", x, 3, 2);
        due.refusedAre("new", x, 0, 0, 0);
        int[] rest = {0, 3, 2, 3};
        for (int what = 3; what <= 6; what++) {
            due.is("new: told(" + what + ")", x.told(what), rest[what - 3]);
        }
        due.is("new: of(3, 0)", x.of(3, 0), -2);
        due.is("new: at(2, 0)", x.at(2, 0), -2);
        due.is("new: LAG of 0", x.gate(0, 0, 0), 0);
        due.is("new: LAG of 1", x.gate(1, 0, 0), 0);
        for (int i = 0; i < 3; i++) {
            due.is("new: again(" + i + ")", x.again(i), -3);
        }
    }

    private static void setsAnswersWhatItWas() {
        StarSenders x = new StarSenders();
        int[] most = {6, 4, 9};
        int[] first = {3, 2, 3};
        for (int what = 0; what < 3; what++) {
            int was = first[what];
            for (int v = 1; v <= most[what]; v++) {
                due.is("sets(" + what + ", " + v + ")", x.sets(what, v), was);
                due.is("told(" + (what + 4) + ")", x.told(what + 4), v);
                was = v;
            }
        }
        due.is("n stays", x.told(4), 6);
        due.is("g stays", x.told(5), 4);
        isNew("all set", x, 6, 4);
        due.refusedAre("all set", x, 0, 0, 0);
    }

    private static void setsLeavesTextAndRefusals() {
        StarSenders x = new StarSenders();
        Due.types(x, "s0;");
        x.all(9);
        x.again(0);
        for (int k = 0; k < 29; k++) {
            x.sends(0);
        }
        x.sends(0);
        due.refusedAre("ahead of sets", x, 1, 1, 1);
        due.is("sets(2, 5)", x.sets(2, 5), 3);
        due.refusedAre("behind sets", x, 1, 1, 1);
        due.is("told(3)", x.told(3), 3);
        due.is("does()", x.does(), 0);
        due.is("all(0)", x.all(0), 2);
        due.is("sets to what it is", x.sets(2, 5), 5);
        isNew("sets to what it is", x, 3, 2);
    }

    private static void setsMakesAllElseNew() {
        for (int what = 0; what < 3; what++) {
            StarSenders x = new StarSenders();
            x.draw(1);
            x.gate(0, 0, 1);
            x.gate(1, 0, 5);
            x.gate(0, 1, 40);
            x.sender(0, 3, 1);
            x.sender(0, 0, 2);
            x.sender(0, 2, 9);
            x.sender(1, 1, 1);
            for (int k = 0; k < 6; k++) {
                x.sends(0);
                x.again(0);
                x.sends(1);
                x.sends(2);
                x.ticks(3);
            }
            x.sends(1);
            due.holds("there is something to forget", x.all(0) > 0 && x.all(1) > 0 && x.all(2) > 0 && x.all(5) > 0);
            int was = x.told(4 + what);
            due.is("sets(" + what + ")", x.sets(what, was), was);
            isNew("sets(" + what + ")", x, 3, 2);
            due.is("LAG of 0", x.gate(0, 0, 0), 0);
            due.is("LAG of 1", x.gate(1, 0, 0), 0);
            due.is("again(0)", x.again(0), -3);
            due.is("again(1)", x.again(1), -3);
            due.is("BUDGET of 0", x.gate(0, 1, 10), 10);
        }
    }

    private static void setsRefuses() {
        StarSenders x = new StarSenders();
        x.sends(0);
        int[][] wrong = {{-1, 1}, {3, 1}, {0, 0}, {0, 7}, {0, -1}, {1, 0}, {1, 5}, {2, 0}, {2, 10},
            {2, Integer.MAX_VALUE}, {Integer.MIN_VALUE, 1}};
        for (int[] w : wrong) {
            due.is("sets(" + w[0] + ", " + w[1] + ")", x.sets(w[0], w[1]), -2);
        }
        due.refusedAre("sets refused", x, wrong.length, 0, 0);
        due.is("nothing is new by it", x.all(0), 2);
        due.is("n", x.told(4), 3);
        due.is("g", x.told(5), 2);
        due.is("WINDOW", x.told(6), 3);
    }

    private static void gateSets() {
        StarSenders x = new StarSenders();
        due.is("gate(1, 0, 5)", x.gate(1, 0, 5), 0);
        due.is("gate(1, 0, 2)", x.gate(1, 0, 2), 5);
        due.is("gate(0, 0, 0)", x.gate(0, 0, 0), 0);
        due.is("gate(0, 1, 40)", x.gate(0, 1, 40), 10);
        due.is("gate(0, 1, 0)", x.gate(0, 1, 0), 40);
        due.is("gate(1, 1, 7)", x.gate(1, 1, 7), 10);
        due.is("at(0, 2)", x.at(0, 2), 0);
        due.is("at(1, 2)", x.at(1, 2), 7);
        x.sends(0);
        due.copyIs("LAG 0", x, 0, 0, 0, 1);
        due.copyIs("LAG 2", x, 1, 0, 1, 3);
        int[][] wrong = {{-1, 0, 0}, {2, 0, 0}, {0, -1, 0}, {0, 2, 0}, {0, 0, -1}, {0, 0, 6}, {0, 1, -1}, {0, 1, 41}};
        for (int[] w : wrong) {
            due.is("gate(" + w[0] + ", " + w[1] + ", " + w[2] + ")", x.gate(w[0], w[1], w[2]), -2);
        }
        due.refusedAre("gate refused", x, wrong.length, 0, 0);
        due.is("LAG of 0 stays", x.gate(0, 0, 1), 0);
        due.is("BUDGET of 0 stays", x.gate(0, 1, 1), 0);
    }

    private static void gainSets() {
        StarSenders x = new StarSenders();
        due.is("gain(2, 1, 60)", x.gain(2, 1, 60), 20);
        due.is("gain(2, 1, 0)", x.gain(2, 1, 0), 60);
        due.is("gain(0, 1, 33)", x.gain(0, 1, 33), 20);
        due.is("hears(2, 1)", x.hears(2, 1), 8);
        due.is("hears(0, 1)", x.hears(0, 1), 41);
        due.is("hears(1, 1)", x.hears(1, 1), 28);
        due.is("hears(2, 0)", x.hears(2, 0), 28);
        int[][] wrong = {{-1, 0, 0}, {3, 0, 0}, {0, -1, 0}, {0, 2, 0}, {0, 0, -1}, {0, 0, 61}};
        for (int[] w : wrong) {
            due.is("gain(" + w[0] + ", " + w[1] + ", " + w[2] + ")", x.gain(w[0], w[1], w[2]), -2);
        }
        due.refusedAre("gain refused", x, wrong.length, 0, 0);
        due.is("GAIN stays", x.gain(0, 0, 20), 20);
    }

    private static void draws() {
        int[] seeds = {0, 1, 7, 12345, 999999};
        for (int n = 1; n <= 6; n++) {
            for (int g = 1; g <= 4; g++) {
                StarSenders x = new StarSenders();
                x.sets(0, n);
                x.sets(1, g);
                for (int seed : seeds) {
                    drawIsAsTold(x, seed, n, g);
                }
            }
        }
        StarSenders x = new StarSenders();
        due.is("draw(-1)", x.draw(-1), -2);
        due.is("draw(1000000)", x.draw(1000000), -2);
        due.refusedAre("draw refused", x, 2, 0, 0);
        due.is("GAIN stays", x.hears(0, 0), 28);
    }

    private static void drawIsAsTold(StarSenders x, int seed, int n, int g) {
        int got = x.draw(seed);
        long drawn = seed;
        int sum = 0;
        for (int k = 0; k < n * g; k++) {
            drawn = (drawn * 1103515245 + 12345) & 0x7fffffffL;
            int gain = (int) ((drawn >> 16) % 61);
            sum += gain;
            due.is("GAIN drawn by " + seed, x.hears(k / g, k % g), gain + 8);
        }
        due.is("draw(" + seed + ")", got, sum);
    }

    private static void senderSets() {
        StarSenders x = new StarSenders();
        int[] first = {0, 4, 0, 0};
        int[] most = {5, 4, 63, 1};
        for (int what = 0; what < 4; what++) {
            due.is("sender to the most", x.sender(1, what, most[what]), first[what]);
            due.is("of", x.of(1, what), most[what]);
            due.is("sender to 0", x.sender(1, what, 0), most[what]);
            due.is("of", x.of(1, what), 0);
            due.is("sender to 1", x.sender(1, what, 1), 0);
            due.is("BAD above", x.sender(1, what, most[what] + 1), -2);
            due.is("BAD below", x.sender(1, what, -1), -2);
        }
        due.senderIs("set", x, 1, 1, 1, 1, 1, 63, 0, 0, 0);
        due.senderIs("another one", x, 0, 0, 4, 0, 0, 63, 0, 0, 0);
        due.is("sender(-1, 0, 0)", x.sender(-1, 0, 0), -2);
        due.is("sender(3, 0, 0)", x.sender(3, 0, 0), -2);
        due.is("sender(0, -1, 0)", x.sender(0, -1, 0), -2);
        due.is("sender(0, 4, 0)", x.sender(0, 4, 0), -2);
        due.refusedAre("sender refused", x, 12, 0, 0);
    }
}
