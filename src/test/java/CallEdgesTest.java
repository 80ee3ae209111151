/**
 * The edges that the promises of the calls name beside being refused (RefusedTest) and the terms
 * (TermsEdgesTest, AnswerEdgesTest), a sentence each.
 */
public final class CallEdgesTest {
    private static final Due due = new Due();

    public static void main(String[] args) {
        newObject();
        setsLeavesFiveThings();
        setsToWhatItIs();
        setsForgetsEveryCount();
        setsBringsBackWhatWasBeyond();
        drawsAtTheEdges();
        drawsForEachSenderAndGate();
        senderChangesOneThing();
        sentThoughNobodyHeard();
        againSinceNew();
        againAsItWas();
        againWithNowsRate();
        ticksLeastAndMost();
        ticksCountJoinings();
        renewedIsNew();
        renewedForTheHouse();
        marginsNotSoMany();
        hearsBelowNought();
        atCounts();
        mergedCounts();
        windowsNotSoMany();
        windowsMoveUp();
        copiesNotSoMany();
        digestOfANewOne();
        digestOfEachValue();
        digestWrapsAround();
        due.end();
    }

    private static void newObject() {
        due.sentence("StarSenders(): As told; TICK 0");
        StarSenders x = new StarSenders();
        due.is("TICK", x.all(8), 0);
        due.is("digest", x.digest(), digestOfNew(3, 2, 3));
        due.is("n", x.told(4), 3);
        due.is("g", x.told(5), 2);
        due.is("WINDOW", x.told(6), 3);
        due.is("an empty TEXT", x.told(3), 0);
        due.is("an empty TEXT is a FAULT", x.does(), -10);
        due.is("two objects are two", new StarSenders().sends(0), 2);
        due.is("of which this one knows nothing", x.all(0), 0);
    }

    /** The document's sum for an object of which nothing is known but n, g and WINDOW. */
    private static long digestOfNew(int n, int g, int window) {
        long h = 2131;
        for (int v : new int[] {0, 0, 0, 0, n, g, window}) {
            h = 31 * h + v;
        }
        for (int i = 0; i < n; i++) {
            for (int v : new int[] {0, 4, 0, 0, 63, 0, 0, 0}) {
                h = 31 * h + v;
            }
        }
        for (int j = 0; j < g; j++) {
            for (int v : new int[] {0, 0, 10, 0}) {
                h = 31 * h + v;
            }
        }
        for (int what = 0; what <= 8; what++) {
            h = 31 * h;
        }
        return h;
    }

    private static void setsLeavesFiveThings() {
        due.sentence("all else but the other two of these, THE TEXT and how often refused as at first");
        for (int what = 0; what < 3; what++) {
            StarSenders x = new StarSenders();
            x.sets(0, 5);
            x.sets(1, 3);
            x.sets(2, 7);
            Due.types(x, "s0;+1");
            x.told(7);
            x.again(0);
            x.sender(0, 3, 1);
            x.gain(0, 0, 1);
            x.gate(0, 0, 5);
            x.gate(0, 1, 1);
            x.sends(0);
            x.sends(1);
            x.ticks(70);
            for (int k = 0; k < 20; k++) {
                x.sends(1);
            }
            int v = new int[] {4, 4, 9}[what];
            due.is("sets", x.sets(what, v), new int[] {5, 3, 7}[what]);
            due.is("n", x.told(4), what == 0 ? 4 : 5);
            due.is("g", x.told(5), what == 1 ? 4 : 3);
            due.is("WINDOW", x.told(6), what == 2 ? 9 : 7);
            due.is("THE TEXT", x.told(3), 5);
            due.refusedAre("how often", x, 1, 1, 1);
            due.senderIs("as at first", x, 0, 0, 4, 0, 0, 63, 0, 0, 0);
            due.gateIs("as at first", x, 0, 0, 0, 10, 0);
            due.allIs("as at first", x, 0, 0, 0, 0, 0, 0, 0, 0, 0);
            due.is("GAIN", x.gain(0, 0, 20), 20);
            due.is("LAG", x.gate(0, 0, 0), 0);
            due.is("BUDGET", x.gate(0, 1, 10), 10);
            due.is("nothing sent", x.again(1), -3);
            x.type(';');
            due.is("THE TEXT is what it was", x.does(), 0);
            due.is("TICKS", x.all(8), 1);
        }
    }

    private static void setsToWhatItIs() {
        due.sentence("become v, all else .. as at first: what it was");
        StarSenders x = new StarSenders();
        for (int what = 0; what < 3; what++) {
            x.sends(0);
            x.ticks(1);
            int was = x.told(4 + what);
            due.is("to what it is", x.sets(what, was), was);
            due.is("all else is as at first", x.digest(), digestOfNew(3, 2, 3));
        }
    }

    /** Each number that can be asked for has become another one; then all are as at first. */
    private static void setsForgetsEveryCount() {
        due.sentence("all else .. as at first");
        for (int what = 0; what < 3; what++) {
            StarSenders x = new StarSenders();
            x.sets(1, 1);
            x.sends(0);
            x.ticks(4);
            x.sender(0, 2, 9);
            due.taking(x, 0, 1);
            x.again(0);
            x.sends(1);
            x.ticks(4);
            x.sender(0, 0, 1);
            x.sender(0, 1, 2);
            x.sends(0);
            x.ticks(1);
            x.again(0);
            x.ticks(1);
            x.sends(0);
            for (int k = 0; k <= 8; k++) {
                due.holds("all(" + k + ") is something", x.all(k) > 0);
            }
            int[] of = {1, 2, 12, 1, 9, 1, 1, 9};
            due.senderIs("something", x, 0, of);
            due.gateIs("something", x, 0, 7, 1, 4, 1);
            int was = x.told(4 + what);
            due.is("sets", x.sets(what, was), was);
            due.is("all is as at first", x.digest(), digestOfNew(3, 1, 3));
            due.is("no WINDOW", x.window(0, 0), -1);
            due.is("no copy", x.copy(0, 0), -1);
            due.is("no MARGIN", x.margin(0, 0), -1000);
            due.is("a JOINING is sent", x.sends(0), 1);
            due.is("and taken at 4", x.ticks(3) * 10 + x.ticks(1), 1);
        }
    }

    private static void setsBringsBackWhatWasBeyond() {
        due.sentence("n (what 0), g (1) .. become v, all else .. as at first");
        StarSenders x = new StarSenders();
        x.sets(0, 6);
        x.sets(1, 4);
        x.sender(5, 0, 3);
        x.sender(5, 3, 1);
        x.sender(5, 2, 8);
        x.gain(5, 3, 60);
        x.gate(3, 0, 5);
        x.gate(3, 1, 40);
        x.sends(5);
        x.sets(0, 1);
        x.sets(1, 1);
        due.is("no SENDER 1", x.of(1, 0), -2);
        due.is("no GATE 1", x.at(1, 0), -2);
        due.is("one hears", x.sends(0), 1);
        x.sets(0, 6);
        x.sets(1, 4);
        due.senderIs("5 as at first", x, 5, 0, 4, 0, 0, 63, 0, 0, 0);
        due.gateIs("3 as at first", x, 3, 0, 0, 10, 0);
        due.is("hears(5, 3)", x.hears(5, 3), 28);
        due.is("LAG", x.gate(3, 0, 1), 0);
    }

    private static void drawsAtTheEdges() {
        due.sentence("X is SEED (0 .. 999999) at first");
        StarSenders x = new StarSenders();
        x.sets(0, 1);
        x.sets(1, 1);
        // 0: 12345 by 65536 is 0; 1: 1103527590 is 16838 times 65536 and some, 16838 is 276 times 61 and 2
        due.is("draw(0)", x.draw(0), 0);
        due.is("GAIN", x.gain(0, 0, 7), 0);
        due.is("draw(1)", x.draw(1), 2);
        due.is("GAIN", x.gain(0, 0, 7), 2);
        int wanted = drawnBy(999999, 1)[0];
        due.is("draw(999999)", x.draw(999999), wanted);
        due.is("GAIN", x.gain(0, 0, 7), wanted);
        due.is("draw(-1)", x.draw(-1), -2);
        due.is("draw(1000000)", x.draw(1000000), -2);
        due.is("GAIN stays", x.gain(0, 0, 7), 7);
        // the first X that is just at, and just below, a whole number of 65536
        for (int seed : new int[] {seedThatLeaves(0), seedThatLeaves(65535)}) {
            due.is("draw(" + seed + ")", x.draw(seed), drawnBy(seed, 1)[0]);
        }
    }

    /** A seed whose first X, by 65536, leaves this over: cutting is not rounding. */
    private static int seedThatLeaves(int rest) {
        for (int seed = 0; seed <= 999999; seed++) {
            if (((seed * 1103515245L + 12345) & 65535) == rest) {
                return seed;
            }
        }
        due.holds("there is such a seed", false);
        return 0;
    }

    private static int[] drawnBy(int seed, int many) {
        java.math.BigInteger drawn = java.math.BigInteger.valueOf(seed);
        int[] gains = new int[many];
        for (int k = 0; k < many; k++) {
            drawn = drawn.multiply(java.math.BigInteger.valueOf(1103515245)).add(java.math.BigInteger.valueOf(12345))
                .mod(java.math.BigInteger.valueOf(2147483648L));
            gains[k] = drawn.intValueExact() / 65536 % 61;
        }
        return gains;
    }

    private static void drawsForEachSenderAndGate() {
        due.sentence("for each SENDER, for each GATE X becomes .. all together");
        StarSenders x = new StarSenders();
        x.sets(0, 6);
        x.sets(1, 4);
        int together = x.draw(999999);
        int sum = 0;
        int[] drawn = drawnBy(999999, 24);
        for (int k = 0; k < 24; k++) {
            due.is("drawn " + k, x.hears(k / 4, k % 4) - 8, drawn[k]);
            sum += drawn[k];
        }
        due.is("all together", together, sum);
        // the row goes on by SENDERS, then by GATES: with 2 GATES the same numbers lie otherwise
        x.sets(1, 2);
        x.draw(999999);
        for (int k = 0; k < 12; k++) {
            due.is("drawn " + k, x.hears(k / 2, k % 2) - 8, drawn[k]);
        }
        x.sends(0);
        x.ticks(1);
        x.draw(999999);
        due.is("nothing else is changed", x.all(1), 1);
    }

    private static void senderChangesOneThing() {
        due.sentence("RATE (0), POWER (1), COUNTER (2), JOINED (3; 1, 0) of a SENDER become v: what it was");
        int[] to = {5, 1, 33, 1};
        for (int what = 0; what < 4; what++) {
            StarSenders x = new StarSenders();
            x.sends(1);
            int[] wanted = {0, 4, 0, 0, 63, 0, 0, 0};
            due.is("what it was", x.sender(1, what, to[what]), wanted[what]);
            wanted[what] = to[what];
            due.senderIs("one thing", x, 1, wanted);
            due.senderIs("another SENDER", x, 0, 0, 4, 0, 0, 63, 0, 0, 0);
            due.is("what he sent is kept", x.again(1) >= 0 ? 1 : 0, 1);
        }
    }

    private static void sentThoughNobodyHeard() {
        due.sentence("(A LETTER sent has his COUNTER gone on even if nobody heard it.)");
        StarSenders x = Due.joined(0);
        x.sender(0, 0, 5);
        x.gain(0, 0, 0);
        x.gain(0, 1, 16);
        x.sender(0, 2, 63);
        due.is("at -17 and -1", x.sends(0), 0);
        due.is("COUNTER goes on, round", x.of(0, 2), 0);
        due.is("no copy", x.all(0), 0);
        x.gain(0, 1, 17);
        due.is("at 0", x.again(0), 1);
        x.ticks(1);
        due.is("63 is no letter ahead", x.all(4), 1);
        StarSenders y = new StarSenders();
        y.sender(0, 0, 5);
        y.gain(0, 0, 0);
        y.gain(0, 1, 0);
        due.is("a JOINING", y.sends(0), 0);
        due.is("COUNTER stays", y.of(0, 2), 0);
        due.is("again, it was sent", y.again(0), 0);
        due.refusedAre("none", y, 0, 0, 0);
    }

    private static void againSinceNew() {
        due.sentence("What he sent last .. since he was as a new one (at first, by renews(), by z)");
        StarSenders x = Due.joined(0, 1);
        due.is("at first", x.again(0), -3);
        x.sends(0);
        due.is("of him", x.again(0), 2);
        due.is("of another", x.again(1), -3);
        x.renews(1);
        due.is("another is renewed", x.again(0), 2);
        x.renews(0);
        due.is("by renews()", x.again(0), -3);
        x.sends(0);
        due.is("of him", x.again(0), 2);
        due.doing(x, "z0;", 0);
        due.is("by z", x.again(0), -3);
        x.sends(0);
        due.doing(x, "z0;s0;", 0);
        due.is("sent behind z", x.again(0), 2);
        due.doing(x, "s0;z1;", 0);
        due.is("z of another", x.again(0), 2);
        x.ticks(4);
        due.is("JOINED meanwhile", x.of(0, 3), 1);
        due.is("it is no new one by that", x.again(0), 2);
        x.sets(0, 3);
        due.is("sets()", x.again(0), -3);
        due.refusedAre("as often as told", x, 0, 5, 0);
    }

    private static void againAsItWas() {
        due.sentence("What he sent last (a letter or a JOINING) .. is sent again as it was");
        StarSenders x = new StarSenders();
        x.sends(0);
        x.sender(0, 3, 1);
        x.sender(0, 2, 6);
        due.is("a JOINING, though he is JOINED", x.again(0), 2);
        due.is("COUNTER stays", x.of(0, 2), 6);
        x.ticks(1);
        due.windowIs("one JOINING", x, 0, 0, -1, 3, 3);
        due.is("and no letter", x.all(1), 1);
        StarSenders y = Due.joined(0);
        y.sender(0, 2, 30);
        y.sends(0);
        y.sends(0);
        y.sender(0, 3, 0);
        y.sender(0, 2, 63);
        due.is("a letter, though he is not", y.again(0), 2);
        due.is("COUNTER stays", y.of(0, 2), 63);
        y.ticks(1);
        due.windowIs("the one before", y, 0, 0, 30, 3, 3);
        due.windowIs("the last", y, 1, 0, 31, 3, 3);
        due.is("merged", y.all(7), 2 + 2);
        due.is("each once", y.ticks(3), 2);
        due.is("behind that", y.again(0), 2);
        y.ticks(1);
        due.is("REPLAYS", y.all(4), 2);
    }

    private static void againWithNowsRate() {
        due.sentence("r i (as again(): with RATE and POWER as they are now)");
        for (int byText = 0; byText <= 1; byText++) {
            StarSenders x = Due.joined(0);
            x.sends(0);
            x.sender(0, 0, 5);
            x.sender(0, 1, 2);
            x.gain(0, 1, 21);
            x.gate(1, 0, 2);
            if (byText == 1) {
                due.doing(x, "r0;", 0);
            } else {
                due.is("again(0)", x.again(0), 1);
            }
            due.is("-1 and 0: GATE 1 alone", x.all(0), 3);
            due.copyIs("LAG of now", x, 2, 0, 1, 3);
            due.is("taken", x.ticks(4), 1);
            due.marginsAre("the greater", x, 0, 28);
        }
    }

    private static void ticksLeastAndMost() {
        due.sentence("m (1 .. 99) TICKS go by");
        StarSenders x = new StarSenders();
        due.is("0", x.ticks(0), -2);
        due.is("1", x.ticks(1), 0);
        due.is("TICKS", x.all(8), 1);
        due.is("99", x.ticks(99), 0);
        due.is("TICKS", x.all(8), 100);
        due.is("100", x.ticks(100), -2);
        due.is("TICKS", x.all(8), 100);
    }

    private static void ticksCountJoinings() {
        due.sentence("how many letters (JOININGS, too) were TAKEN");
        StarSenders x = Due.joined(0);
        x.sends(0);
        x.sends(1);
        due.is("not yet", x.ticks(3), 0);
        x.sends(0);
        due.is("a letter and a JOINING", x.ticks(1), 2);
        due.is("one more letter", x.ticks(99), 1);
        due.is("all(2)", x.all(2), 2);
        due.is("all(3)", x.all(3), 1);
        x.again(0);
        due.is("a REPLAY does not count", x.ticks(99), 0);
    }

    private static void renewedIsNew() {
        due.sentence("He is as a new one: not JOINED, RATE 0, POWER 4, COUNTER 0, nothing sent .. whether he was JOINED");
        for (int byText = 0; byText <= 1; byText++) {
            StarSenders x = Due.joined(0);
            x.sender(0, 0, 5);
            x.sender(0, 1, 0);
            x.sender(0, 2, 62);
            x.gain(0, 0, 60);
            x.sends(0);
            if (byText == 1) {
                due.doing(x, "z0;", 0);
            } else {
                due.is("he was", x.renews(0), 1);
            }
            due.senderIs("new", x, 0, 0, 4, 0, 0, 63, 0, 0, 0);
            due.is("nothing sent", x.again(0), -3);
            due.is("he was not", x.renews(0), 0);
            due.is("GAIN stays", x.hears(0, 0), 68);
        }
    }

    private static void renewedForTheHouse() {
        due.sentence("(what the house knows of him and what is on its way stay)");
        for (int byText = 0; byText <= 1; byText++) {
            StarSenders x = Due.joined(0);
            x.sender(0, 2, 5);
            due.taking(x, 0, 1);
            x.sends(0);
            x.ticks(1);
            x.sends(0);
            if (byText == 1) {
                due.doing(x, "z0;", 0);
            } else {
                x.renews(0);
            }
            due.senderIs("LAST, MARGINS, TAKEN, GAPS", x, 0, 0, 4, 0, 0, 5, 1, 1, 5);
            due.is("on their way", x.all(0), 2);
            due.is("open", x.all(1), 1);
            due.is("both come in", x.ticks(4), 2);
            due.senderIs("LAST, MARGINS, TAKEN, GAPS", x, 0, 0, 4, 0, 0, 7, 3, 3, 5);
            x.sender(0, 3, 1);
            x.sends(0);
            due.is("his 0 is 57 ahead of 7", x.ticks(4), 0);
            due.is("REPLAYS", x.all(4), 2);
        }
    }

    private static void marginsNotSoMany() {
        due.sentence("The k-th MARGIN noted of a SENDER, the oldest first; -1000: not so many. BAD: k below 0, too");
        StarSenders x = Due.oneGate(0, 3, 0);
        for (int k = 0; k <= 4; k++) {
            due.is("the first that is not", x.margin(0, k), -1000);
            due.is("far off", x.margin(0, Integer.MAX_VALUE), -1000);
            due.is("below 0", x.margin(0, -1), -2);
            if (k > 0) {
                due.is("the last that is", x.margin(0, k - 1), k == 1 ? 7 : 6);
                due.is("the oldest", x.margin(0, 0), 7);
            }
            x.gain(0, 0, k == 0 ? 1 : 0);
            due.taking(x, 0, 1);
        }
        due.marginsAre("a fifth: the oldest goes", x, 0, 6, 6, 6, 6);
        due.is("of another SENDER", x.margin(1, 0), -1000);
    }

    private static void hearsBelowNought() {
        due.sentence("MARGIN of a SENDER at a GATE, did he send now (below 0, too). BAD: -2000");
        StarSenders x = new StarSenders();
        x.sender(2, 0, 5);
        x.sender(2, 1, 0);
        x.gain(2, 1, 0);
        due.is("the least", x.hears(2, 1), -25);
        x.gain(2, 1, 23);
        due.is("-2 is no BAD", x.hears(2, 1), -2);
        due.refusedAre("none", x, 0, 0, 0);
        due.is("BAD", x.hears(3, 1), -2000);
        due.is("BAD", x.hears(2, 2), -2000);
        due.is("it is not sent by asking", x.all(0) + x.at(1, 0), 0);
    }

    private static void atCounts() {
        due.sentence("copies that it sent on (0), ANSWERS it sent (1) .. letters TAKEN of which it was BEST (3; JOININGS not)");
        StarSenders x = new StarSenders();
        x.sends(0);
        due.gateIs("sent on as it was heard", x, 0, 1, 0, 10, 0);
        x.again(0);
        due.gateIs("again, too", x, 1, 2, 0, 10, 0);
        x.ticks(4);
        due.gateIs("a JOINING", x, 0, 2, 1, 4, 0);
        due.taking(x, 0, 1);
        due.gateIs("a letter", x, 0, 3, 1, 4, 1);
        x.again(0);
        x.ticks(4);
        due.gateIs("a REPLAY", x, 0, 4, 1, 4, 1);
        due.gateIs("not BEST", x, 1, 4, 0, 10, 0);
    }

    private static void mergedCounts() {
        due.sentence("copies merged (7; that came to an open WINDOW)");
        StarSenders x = Due.oneGate(0, 4, 20);
        x.sends(0);
        x.ticks(1);
        due.is("the one that opens is not", x.all(7), 0);
        x.again(0);
        due.is("nor one on its way", x.all(7), 0);
        x.ticks(1);
        due.is("the second is", x.all(7), 1);
        x.ticks(2);
        x.again(0);
        x.ticks(1);
        due.is("a REPLAY is not", x.all(7), 1);
        due.is("REPLAYS", x.all(4), 1);
    }

    private static void windowsNotSoMany() {
        due.sentence("Of the k-th WINDOW open (as they were opened) .. NONE: not so many. BAD: k below 0, too");
        StarSenders x = new StarSenders();
        x.sets(1, 4);
        x.sender(1, 3, 1);
        x.gain(1, 1, 0);
        x.sender(1, 0, 2);
        for (int k = 0; k < 2; k++) {
            due.windowIs("none", x, k, -1, -1, -1, -1);
        }
        x.sends(1);
        x.sends(0);
        x.ticks(1);
        due.windowIs("a letter", x, 0, 1, 0, 1 + 4 + 8, 3);
        due.windowIs("a JOINING: NONE is its COUNTER", x, 1, 0, -1, 15, 3);
        due.windowIs("not so many", x, 2, -1, -1, -1, -1);
        due.windowIs("not so many", x, Integer.MAX_VALUE, -1, -1, -1, -1);
        due.windowIs("below 0", x, -1, -2, -2, -2, -2);
        x.ticks(2);
        due.is("the least that is asked for", x.window(0, 3), 1);
        x.ticks(1);
        due.windowIs("closed", x, 0, -1, -1, -1, -1);
    }

    /** Windows that were heard by other gates and at other margins move up as those ahead of them close. */
    private static void windowsMoveUp() {
        due.sentence("Of the k-th WINDOW open (as they were opened): SENDER (0), COUNTER (1..), GATES that heard it (2, bits)");
        StarSenders x = new StarSenders();
        x.sets(0, 6);
        x.sets(1, 4);
        for (int i = 0; i < 6; i++) {
            x.sender(i, 3, 1);
            x.sender(i, 0, 4);
            x.sender(i, 2, 3 * i);
            for (int j = 0; j < 4; j++) {
                x.gain(i, j, (i + 1 >> j & 1) == 1 ? 20 + 3 * i + j : 0);
            }
        }
        x.sends(0);
        x.sends(1);
        x.ticks(1);
        for (int i = 2; i < 6; i++) {
            x.sends(i);
        }
        x.ticks(1);
        for (int i = 0; i < 6; i++) {
            due.windowIs("all", x, i, i, 3 * i, i + 1, i < 2 ? 2 : 3);
        }
        due.is("two close", x.ticks(2), 2);
        for (int i = 2; i < 6; i++) {
            due.windowIs("those that are left", x, i - 2, i, 3 * i, i + 1, 1);
        }
        due.is("four close", x.ticks(1), 4);
        int[] best = {0, 1, 1, 2, 2, 2};
        for (int i = 0; i < 6; i++) {
            due.marginsAre("noted", x, i, 20 + 3 * i + best[i] + 8 - 20);
        }
    }

    private static void copiesNotSoMany() {
        due.sentence("Of the k-th copy on its way (as they were sent) .. NONE: not so many. BAD: k below 0, too");
        StarSenders x = new StarSenders();
        due.copyIs("none", x, 0, -1, -1, -1);
        x.gate(1, 0, 5);
        x.sends(2);
        due.copyIs("the first", x, 0, 2, 0, 1);
        due.copyIs("the last", x, 1, 2, 1, 6);
        due.copyIs("not so many", x, 2, -1, -1, -1);
        due.copyIs("not so many", x, Integer.MAX_VALUE, -1, -1, -1);
        due.copyIs("below 0", x, -1, -2, -2, -2);
        x.ticks(4);
        x.sends(0);
        x.sends(1);
        x.ticks(1);
        due.copyIs("the least", x, 0, 2, 1, 1);
        due.copyIs("they move up", x, 1, 0, 1, 5);
        due.copyIs("they move up", x, 2, 1, 1, 5);
        due.copyIs("not so many", x, 3, -1, -1, -1);
        x.ticks(1);
        due.copyIs("they move up", x, 0, 0, 1, 4);
        due.copyIs("they move up", x, 1, 1, 1, 4);
        x.ticks(4);
        due.copyIs("all have come", x, 0, -1, -1, -1);
    }

    private static void digestOfANewOne() {
        due.sentence("h = 2131; then h = 31 h + v for each v");
        for (int n = 1; n <= 6; n++) {
            for (int g = 1; g <= 4; g++) {
                StarSenders x = new StarSenders();
                x.sets(0, n);
                x.sets(1, g);
                x.sets(2, n + g - 1);
                due.is("n " + n + ", g " + g, x.digest(), digestOfNew(n, g, n + g - 1));
            }
        }
    }

    private static long digestAsTold(StarSenders x) {
        long h = 2131;
        int n = x.told(4);
        int g = x.told(5);
        for (int what = 0; what <= 6; what++) {
            h = 31 * h + x.told(what);
        }
        for (int i = 0; i < n; i++) {
            for (int what = 0; what <= 7; what++) {
                h = 31 * h + x.of(i, what);
            }
        }
        for (int j = 0; j < g; j++) {
            for (int what = 0; what <= 3; what++) {
                h = 31 * h + x.at(j, what);
            }
        }
        for (int what = 0; what <= 8; what++) {
            h = 31 * h + x.all(what);
        }
        return h;
    }

    private static void digestOfEachValue() {
        due.sentence("told(0) to told(6); of SENDERS of(0) to of(7); of GATES at(0) to at(3); all(0) to all(8)");
        StarSenders x = new StarSenders();
        x.sets(0, 2);
        x.sends(0);
        x.ticks(4);
        x.gate(0, 1, 1);
        due.is("below 0", x.at(0, 2), -5);
        due.is("with a number below 0", x.digest(), digestAsTold(x));
        x.sender(1, 0, 2);
        x.sender(1, 2, 63);
        x.sends(1);
        x.told(99);
        x.again(1);
        Due.types(x, "s0;");
        due.is("with copies and a TEXT", x.digest(), digestAsTold(x));
        long was = x.digest();
        due.is("it changes nothing", x.digest(), was);
        due.refusedAre("and is not refused", x, 1, 0, 0);
        x.told(99);
        due.is("how often is in it", x.digest(), digestAsTold(x));
        due.holds("how often is in it", x.digest() != was);
    }

    private static void digestWrapsAround() {
        due.sentence("h = 31 h + v");
        StarSenders x = new StarSenders();
        java.math.BigInteger h = java.math.BigInteger.valueOf(2131);
        int[] values = {0, 0, 0, 0, 3, 2, 3, 0, 4, 0, 0, 63, 0, 0, 0, 0, 4, 0, 0, 63, 0, 0, 0, 0, 4, 0, 0, 63, 0, 0, 0,
            0, 0, 10, 0, 0, 0, 10, 0, 0, 0, 0, 0, 0, 0, 0, 0, 0};
        for (int v : values) {
            h = h.multiply(java.math.BigInteger.valueOf(31)).add(java.math.BigInteger.valueOf(v));
        }
        due.holds("the sum is far beyond a long", h.bitLength() > 200);
        due.is("by 2 to the 64", x.digest(), h.longValue());
    }
}
