/**
 * The edges that the terms name, a sentence each: bounds, first values, copies on their way, windows
 * that open and close, replays, gaps. What answers do is in AnswerEdgesTest.
 */
public final class TermsEdgesTest {
    private static final Due due = new Due();

    public static void main(String[] args) {
        boundsOfTheSettings();
        boundsOfAGate();
        lagsFromLeastToMost();
        boundsOfGains();
        boundsOfASender();
        lastAtFirst();
        lastFourMargins();
        marginsOfThisJoining();
        counterByStepsGoesRound();
        counterOfAJoiningStays();
        marginOfNought();
        greatestAndLeastMargin();
        comesAtOneTickAndLag();
        lagOfTheSendingCounts();
        comeAsTheyWereSent();
        atOneSendingByGates();
        windowOfThatSenderAndCounter();
        greaterMarginOfTwo();
        joiningAlwaysOpens();
        oneToThirtyTwoOpens();
        aheadGoesRound();
        closesAtWindowTicks();
        comeAheadOfClosing();
        closeAsTheyWereOpened();
        takenSince();
        takenSinceByAJoining();
        gapsLessOne();
        gapsGoOn();
        bestOfLikeOnes();
        mostWindows();
        due.end();
    }

    private static void boundsOfTheSettings() {
        int[] most = {6, 4, 9};
        int[] first = {3, 2, 3};
        String[] words = {"n 1 .. 6; 3 at first", "g 1 .. 4; 2 at first", "WINDOW (1 .. 9; 3 at first)"};
        for (int what = 0; what < 3; what++) {
            due.sentence(words[what]);
            StarSenders x = new StarSenders();
            due.is("at first", x.told(4 + what), first[what]);
            due.is("0", x.sets(what, 0), -2);
            due.is("one too many", x.sets(what, most[what] + 1), -2);
            due.is("it stays", x.told(4 + what), first[what]);
            due.is("the most", x.sets(what, most[what]), first[what]);
            due.is("is so", x.told(4 + what), most[what]);
            due.is("1", x.sets(what, 1), most[what]);
            due.is("is so", x.told(4 + what), 1);
        }
    }

    private static void boundsOfAGate() {
        int[] most = {5, 40};
        int[] first = {0, 10};
        String[] words = {"a LAG (0 .. 5; 0 at first)", "a BUDGET (0 .. 40; 10 at first)"};
        for (int what = 0; what < 2; what++) {
            due.sentence(words[what]);
            StarSenders x = new StarSenders();
            x.sets(1, 4);
            for (int j = 0; j < 4; j++) {
                due.is("-1", x.gate(j, what, -1), -2);
                due.is("one too many", x.gate(j, what, most[what] + 1), -2);
                due.is("the most, from what it was at first", x.gate(j, what, most[what]), first[what]);
                due.is("0", x.gate(j, what, 0), most[what]);
                due.is("1", x.gate(j, what, 1), 0);
            }
        }
    }

    private static void lagsFromLeastToMost() {
        due.sentence("comes to the house at 1 TICK and LAG on");
        for (int lag = 0; lag <= 5; lag++) {
            StarSenders x = Due.joined(0);
            x.sets(1, 1);
            x.sender(0, 3, 1);
            x.gate(0, 0, lag);
            x.sends(0);
            due.is("TICKS until it comes, LAG " + lag, x.copy(0, 2), lag + 1);
            due.is("not yet", lag == 0 ? 0 : x.ticks(lag), 0);
            due.is("on its way", x.all(0), 1);
            due.is("no WINDOW", x.all(1), 0);
            x.ticks(1);
            due.is("it has come", x.all(0), 0);
            due.windowIs("it has come", x, 0, 0, 0, 1, 3);
        }
    }

    private static void boundsOfGains() {
        due.sentence("GAIN of a SENDER at a GATE (0 .. 60; 20 at first)");
        StarSenders x = new StarSenders();
        x.sets(0, 6);
        x.sets(1, 4);
        for (int i = 0; i < 6; i++) {
            for (int j = 0; j < 4; j++) {
                due.is("-1", x.gain(i, j, -1), -2);
                due.is("61", x.gain(i, j, 61), -2);
                due.is("60", x.gain(i, j, 60), 20);
                due.is("0", x.gain(i, j, 0), 60);
                due.is("1", x.gain(i, j, 1), 0);
            }
        }
    }

    private static void boundsOfASender() {
        String[] words = {"a RATE (0 .. 5; 0)", "a POWER (0 .. 4; 4)", "a COUNTER (0 .. 63; 0)",
            "is JOINED or not (not at first)"};
        int[] most = {5, 4, 63, 1};
        int[] first = {0, 4, 0, 0};
        for (int what = 0; what < 4; what++) {
            due.sentence(words[what]);
            StarSenders x = new StarSenders();
            x.sets(0, 6);
            for (int i = 0; i < 6; i++) {
                due.is("at first", x.of(i, what), first[what]);
                due.is("-1", x.sender(i, what, -1), -2);
                due.is("one too many", x.sender(i, what, most[what] + 1), -2);
                due.is("it stays", x.of(i, what), first[what]);
                due.is("the most", x.sender(i, what, most[what]), first[what]);
                due.is("is so", x.of(i, what), most[what]);
                due.is("0", x.sender(i, what, 0), most[what]);
                due.is("is so", x.of(i, what), 0);
            }
        }
    }

    private static void lastAtFirst() {
        due.sentence("LAST (0 .. 63; 63 at first)");
        StarSenders x = Due.joined(0, 1, 2);
        for (int i = 0; i < 3; i++) {
            due.is("LAST at first", x.of(i, 4), 63);
        }
        x.sends(0);
        due.is("0 is the next one behind 63", x.ticks(4), 1);
        due.is("LAST is 0", x.of(0, 4), 0);
        x.sender(1, 2, 63);
        x.sends(1);
        due.is("63 is none ahead of LAST", x.ticks(4), 0);
        due.is("REPLAYS", x.all(4), 2);
        due.is("of 31, then 63", reachLast63(x), 2);
        due.is("LAST is 63 again", x.of(2, 4), 63);
    }

    private static int reachLast63(StarSenders x) {
        x.sender(2, 2, 31);
        x.sends(2);
        int taken = x.ticks(4);
        x.sender(2, 2, 63);
        x.sends(2);
        return taken + x.ticks(4);
    }

    private static void lastFourMargins() {
        due.sentence("the MARGINS of the last 4 letters it took of him");
        // a greatest one of 6 or 7 asks for nothing, so no ANSWER takes them away
        StarSenders x = Due.oneGate(0, 3, 0);
        int[] gain = {1, 0, 0, 1, 0, 1};
        int[][] noted = {{7}, {7, 6}, {7, 6, 6}, {7, 6, 6, 7}, {6, 6, 7, 6}, {6, 7, 6, 7}};
        for (int k = 0; k < gain.length; k++) {
            x.gain(0, 0, gain[k]);
            due.taking(x, 0, 1);
            due.is("how many", x.of(0, 5), noted[k].length);
            due.marginsAre("letter " + k, x, 0, noted[k]);
        }
        StarSenders y = Due.oneGate(2, 0, 10);
        due.taking(y, 0, 1);
        due.marginsAre("a MARGIN of 0 is noted", y, 0, 0);
    }

    private static void marginsOfThisJoining() {
        due.sentence("(of this joining)");
        StarSenders x = Due.joined(0, 1);
        due.taking(x, 0, 3);
        due.taking(x, 1, 2);
        x.renews(0);
        due.is("by renews() they stay", x.of(0, 5), 3);
        x.sends(0);
        due.is("a JOINING", x.ticks(4), 1);
        due.marginsAre("none", x, 0);
        due.marginsAre("of another one they stay", x, 1, 28, 28);
        due.taking(x, 0, 1);
        due.marginsAre("counted anew", x, 0, 28);
        due.taking(x, 0, 2);
        due.is("three are too few for an ANSWER", x.all(5), 1);
        due.taking(x, 0, 1);
        due.is("four are not", x.all(5) + x.all(6), 2);
    }

    private static void counterByStepsGoesRound() {
        due.sentence("his COUNTER (then 1 more, by 64 left over)");
        // MARGINS of 6 ask for nothing, so all of them are heard
        StarSenders x = Due.oneGate(0, 3, 0);
        for (int k = 1; k <= 66; k++) {
            x.sends(0);
            due.is("COUNTER behind letter " + k, x.of(0, 2), k == 64 ? 0 : k > 64 ? k - 64 : k);
            if (k % 8 == 0) {
                x.ticks(4);
            }
        }
        due.is("all are taken in turn", x.all(2), 64);
        x.ticks(4);
        due.is("all are taken in turn", x.all(2), 66);
        due.is("no GAPS", x.of(0, 7), 0);
        due.is("no REPLAYS", x.all(4), 0);
    }

    private static void counterOfAJoiningStays() {
        due.sentence("if he is not JOINED, a JOINING (no COUNTER; it stays)");
        for (int counter : new int[] {0, 1, 62, 63}) {
            StarSenders x = new StarSenders();
            x.sender(0, 2, counter);
            due.is("sends(0)", x.sends(0), 2);
            due.is("COUNTER stays", x.of(0, 2), counter);
            x.ticks(1);
            due.is("no COUNTER", x.window(0, 1), -1);
            due.is("COUNTER stays", x.of(0, 2), counter);
        }
    }

    private static void marginOfNought() {
        due.sentence("is it 0 or more, a copy goes from there");
        StarSenders x = Due.oneGate(1, 2, 1);
        due.is("hears", x.hears(0, 0), 0);
        due.is("at 0", x.sends(0), 1);
        due.is("a copy", x.all(0), 1);
        due.is("sent on", x.at(0, 0), 1);
        x.gain(0, 0, 0);
        due.is("hears", x.hears(0, 0), -1);
        due.is("at -1", x.sends(0), 0);
        due.is("no other", x.all(0), 1);
        due.is("sent on", x.at(0, 0), 1);
        x.gain(0, 0, 2);
        due.is("at 1", x.sends(0), 1);
        due.is("0 and 2 are taken, 1 is a gap", x.ticks(4), 2);
        due.marginsAre("noted", x, 0, 0, 1);
        due.is("GAPS", x.of(0, 7), 1);
    }

    private static void greatestAndLeastMargin() {
        due.sentence("At each GATE its MARGIN: GAIN and 2 POWER less 5 RATE");
        StarSenders x = Due.oneGate(0, 4, 60);
        due.is("the greatest", x.hears(0, 0), 68);
        x.sender(0, 0, 5);
        x.sender(0, 1, 0);
        x.gain(0, 0, 0);
        due.is("the least", x.hears(0, 0), -25);
        x.sender(0, 1, 4);
        due.is("POWER alone", x.hears(0, 0), -17);
        x.sender(0, 0, 0);
        due.is("POWER and no RATE", x.hears(0, 0), 8);
        x.sender(0, 1, 0);
        due.is("neither", x.hears(0, 0), 0);
    }

    private static void comesAtOneTickAndLag() {
        due.sentence("SENDING at the TICK it is (0 at first; TICKS go by as told)");
        StarSenders x = Due.joined(0);
        due.is("TICK at first", x.all(8), 0);
        x.ticks(99);
        due.is("TICK", x.all(8), 99);
        x.gate(1, 0, 5);
        x.sends(0);
        due.copyIs("sent at 99", x, 0, 0, 0, 1);
        due.copyIs("sent at 99", x, 1, 0, 1, 6);
        x.ticks(1);
        due.copyIs("at 100", x, 0, 0, 1, 5);
    }

    private static void lagOfTheSendingCounts() {
        due.sentence("comes to the house at 1 TICK and LAG on");
        StarSenders x = Due.joined(0);
        x.gate(0, 0, 2);
        x.sends(0);
        x.gate(0, 0, 0);
        x.gate(1, 0, 5);
        due.copyIs("LAG as it was", x, 0, 0, 0, 3);
        due.copyIs("LAG as it was", x, 1, 0, 1, 1);
        x.ticks(1);
        due.windowIs("GATE 1 alone", x, 0, 0, 0, 2, 3);
        x.ticks(2);
        due.windowIs("both", x, 0, 0, 0, 3, 1);
    }

    private static void comeAsTheyWereSent() {
        due.sentence("Copies whose TICK it is come, as they were sent");
        StarSenders x = Due.joined(0, 1, 2);
        x.gain(2, 1, 60);
        x.gate(0, 0, 2);
        x.gate(1, 0, 2);
        x.sends(2);
        x.ticks(1);
        x.gate(0, 0, 1);
        x.gate(1, 0, 1);
        x.sends(1);
        x.ticks(1);
        x.gate(0, 0, 0);
        x.gate(1, 0, 0);
        x.sends(0);
        x.sends(2);
        due.copyIs("sent first", x, 0, 2, 0, 1);
        due.copyIs("sent last", x, 7, 2, 1, 1);
        x.ticks(1);
        due.windowIs("sent first", x, 0, 2, 0, 3, 3);
        due.windowIs("sent then", x, 1, 1, 0, 3, 3);
        due.windowIs("sent then", x, 2, 0, 0, 3, 3);
        due.windowIs("sent last", x, 3, 2, 1, 3, 3);
        due.is("and no more", x.all(1), 4);
    }

    private static void atOneSendingByGates() {
        due.sentence("(at one sending by GATES)");
        StarSenders x = new StarSenders();
        x.sets(1, 4);
        for (int j = 0; j < 4; j++) {
            x.gain(0, j, 10 * j);
            x.gate(j, 0, 3 - j);
        }
        due.is("sends(0)", x.sends(0), 4);
        for (int j = 0; j < 4; j++) {
            due.copyIs("by GATES, not by MARGINS or TICKS", x, j, 0, j, 4 - j);
        }
        x.ticks(2);
        due.copyIs("those that are left", x, 0, 0, 0, 2);
        due.copyIs("those that are left", x, 1, 0, 1, 1);
        due.is("no more", x.copy(2, 0), -1);
    }

    private static void windowOfThatSenderAndCounter() {
        due.sentence("is a WINDOW open for that SENDER and COUNTER (or JOINING), it is added to it");
        StarSenders x = Due.joined(0, 1);
        x.sends(0);
        x.sends(1);
        x.sends(0);
        x.sends(2);
        x.renews(0);
        x.sends(0);
        x.again(0);
        x.sends(0);
        x.ticks(1);
        due.is("WINDOWS", x.all(1), 5);
        due.windowIs("a letter", x, 0, 0, 0, 3, 3);
        due.windowIs("another SENDER's of the same COUNTER", x, 1, 1, 0, 3, 3);
        due.windowIs("another COUNTER", x, 2, 0, 1, 3, 3);
        due.windowIs("a JOINING", x, 3, 2, -1, 3, 3);
        due.windowIs("another SENDER's JOINING, sent three times", x, 4, 0, -1, 3, 3);
        due.is("merged", x.all(7), 5 + 4);
        due.is("each is taken once", x.ticks(3), 5);
        due.is("JOININGS", x.all(3), 2);
    }

    private static void greaterMarginOfTwo() {
        due.sentence("(of a GATE that sent on two the greater MARGIN counts)");
        int[][] gains = {{30, 10}, {10, 30}, {30, 30}, {30, 29}, {29, 30}};
        for (int[] gain : gains) {
            StarSenders x = Due.oneGate(0, 0, gain[0]);
            x.sends(0);
            x.ticks(1);
            x.gain(0, 0, gain[1]);
            x.again(0);
            due.is("one letter", x.ticks(3), 1);
            due.marginsAre("the greater", x, 0, 30);
            due.is("merged", x.all(7), 1);
        }
        StarSenders x = Due.joined(0);
        x.gain(0, 1, 5);
        x.sends(0);
        x.gain(0, 0, 0);
        x.gain(0, 1, 21);
        x.again(0);
        due.is("one letter", x.ticks(4), 1);
        due.is("28 and 8 at 0, 13 and 29 at 1", x.at(1, 3), 1);
        due.marginsAre("of the greater ones the greatest", x, 0, 29);
    }

    private static void joiningAlwaysOpens() {
        due.sentence("else, of a JOINING a WINDOW opens");
        StarSenders x = new StarSenders();
        x.sends(0);
        due.is("taken", x.ticks(4), 1);
        due.is("JOINED already", x.again(0), 2);
        x.ticks(1);
        due.windowIs("it opens one more", x, 0, 0, -1, 3, 3);
        due.is("taken again", x.ticks(3), 1);
        due.is("no REPLAY", x.all(4), 0);
        due.is("JOININGS", x.all(3), 2);
    }

    /** An object whose house has LAST of sender 0; few calls, as 32 at most may be let by. */
    private static StarSenders withLast(int last) {
        StarSenders x = Due.joined(0);
        for (int way = 0; way < 2 && x.of(0, 4) != last; way++) {
            int counter = way == 0 && last >= 32 && last < 63 ? 31 : last;
            x.sender(0, 2, counter);
            x.sends(0);
            x.ticks(4);
        }
        due.is("LAST", x.of(0, 4), last);
        return x;
    }

    private static void opensAt(int last, int ahead) {
        StarSenders x = withLast(last);
        int replays = x.all(4);
        int gaps = x.of(0, 7);
        int taken = x.of(0, 6);
        boolean opens = ahead >= 1 && ahead <= 32;
        String when = ahead + " ahead of " + last;
        x.sender(0, 2, (last + ahead) % 64);
        x.sends(0);
        x.ticks(1);
        due.is(when + ": WINDOWS", x.all(1), opens ? 1 : 0);
        due.is(when + ": REPLAYS, one for each copy", x.all(4), opens ? replays : replays + 2);
        due.is(when + ": ticks(3)", x.ticks(3), opens ? 1 : 0);
        due.is(when + ": LAST", x.of(0, 4), opens ? (last + ahead) % 64 : last);
        due.is(when + ": GAPS", x.of(0, 7), opens ? gaps + ahead - 1 : gaps);
        due.is(when + ": TAKEN", x.of(0, 6), opens ? taken + 1 : taken);
    }

    private static void oneToThirtyTwoOpens() {
        due.sentence("if (COUNTER less LAST, by 64 left over, 0 or more) is 1 .. 32 a WINDOW opens, else it is a REPLAY");
        for (int ahead = 0; ahead < 64; ahead++) {
            opensAt(63, ahead);
            opensAt(10, ahead);
        }
    }

    private static void aheadGoesRound() {
        due.sentence("COUNTER less LAST, by 64 left over, 0 or more");
        for (int last : new int[] {0, 31, 32, 33, 40, 62, 63}) {
            for (int ahead : new int[] {0, 1, 2, 31, 32, 33, 34, 62, 63}) {
                opensAt(last, ahead);
            }
        }
    }

    private static void closesAtWindowTicks() {
        due.sentence("(opened at TICK t: at t and WINDOW) close");
        for (int length = 1; length <= 9; length++) {
            for (int joined = 0; joined <= 1; joined++) {
                StarSenders x = new StarSenders();
                x.sets(2, length);
                x.sender(0, 3, joined);
                x.sends(0);
                for (int tick = 1; tick <= length; tick++) {
                    due.is("none is taken at " + tick, x.ticks(1), 0);
                    due.is("TICKS until it closes", x.window(0, 3), 1 + length - tick);
                }
                due.is("taken at 1 and WINDOW", x.ticks(1), 1);
                due.is("closed", x.all(1), 0);
                due.is("none more", x.ticks(20), 0);
            }
        }
    }

    private static void comeAheadOfClosing() {
        due.sentence("Copies whose TICK it is come .. Then WINDOWS that have been open for WINDOW TICKS .. close");
        for (int length = 1; length <= 9; length++) {
            StarSenders x = new StarSenders();
            x.sets(2, length);
            x.sets(1, 1);
            x.sender(0, 3, 1);
            x.sends(0);
            x.ticks(length);
            x.again(0);
            due.is("it comes as the WINDOW closes", x.ticks(1), 1);
            due.is("merged", x.all(7), 1);
            due.is("no REPLAY", x.all(4), 0);
            StarSenders y = new StarSenders();
            y.sets(2, length);
            y.sets(1, 1);
            y.sender(0, 3, 1);
            y.sends(0);
            y.ticks(length + 1);
            y.again(0);
            due.is("it comes one TICK behind", y.ticks(1), 0);
            due.is("not merged", y.all(7), 0);
            due.is("a REPLAY", y.all(4), 1);
        }
    }

    private static void closeAsTheyWereOpened() {
        due.sentence("close, as they were opened: the letter is TAKEN");
        StarSenders x = Due.joined(0);
        for (int counter : new int[] {4, 9, 7, 12}) {
            x.sender(0, 2, counter);
            x.sends(0);
        }
        due.is("4, 9 and 12; 7 comes behind 9", x.ticks(4), 3);
        due.is("REPLAYS", x.all(4), 1);
        due.is("GAPS", x.of(0, 7), 4 + 4 + 2);
        due.is("LAST", x.of(0, 4), 12);
        // two JOININGS and BUDGET for one: the one whose WINDOW was opened first is answered
        StarSenders y = new StarSenders();
        y.gate(0, 1, 6);
        y.gate(1, 1, 0);
        y.sends(2);
        y.sends(1);
        due.is("both are taken", y.ticks(4), 2);
        due.is("answered", y.of(2, 3), 1);
        due.is("not answered", y.of(1, 3), 0);
    }

    private static void takenSince() {
        due.sentence("was another one taken of him since that makes (COUNTER less LAST ..) no more 1 .. 32, it is a REPLAY");
        int[][] cases = {{31, 0}, {31, 30}, {1, 0}, {20, 5}};
        for (int[] c : cases) {
            StarSenders x = Due.joined(0, 1);
            x.sender(0, 2, c[0]);
            x.sends(0);
            x.sender(0, 2, c[1]);
            x.sends(0);
            x.sends(1);
            x.ticks(1);
            due.is("all may open", x.all(1), 3);
            due.is("one of his, one of another", x.ticks(3), 2);
            due.is("one REPLAY, of the WINDOW and not of its copies", x.all(4), 1);
            due.senderIs("as the first made it", x, 0, 0, 4, c[1] + 1, 1, c[0], 1, 1, c[0]);
            due.is("BEST is not counted", x.at(0, 3), 2);
            due.is("letters TAKEN", x.all(2), 2);
            due.marginsAre("its MARGIN is not noted", x, 0, 28);
        }
        // 31 is taken while 0 is open; 32 ahead of it is 63
        StarSenders y = Due.joined(0);
        y.sender(0, 2, 31);
        y.sends(0);
        y.ticks(2);
        y.sender(0, 2, 0);
        y.sends(0);
        due.is("31 is taken", y.ticks(2), 1);
        y.sender(0, 2, 63);
        y.sends(0);
        due.is("0 is not", y.ticks(2), 0);
        due.is("a REPLAY", y.all(4), 1);
        due.is("63 is", y.ticks(2), 1);
        due.is("GAPS", y.of(0, 7), 31 + 31);
    }

    /** LAST is 40, a joining is taken, then a letter whose window was opened ahead of that. */
    private static void letterBehindAJoining(int counter, boolean taken) {
        StarSenders x = withLast(40);
        int gaps = x.of(0, 7);
        int letters = x.of(0, 6);
        x.sender(0, 3, 0);
        x.sends(0);
        x.sender(0, 3, 1);
        x.sender(0, 2, counter);
        x.sends(0);
        x.ticks(1);
        due.is(counter + ": both are open", x.all(1), 2);
        due.is(counter + ": ticks(3)", x.ticks(3), taken ? 2 : 1);
        due.is(counter + ": REPLAYS", x.all(4), taken ? 0 : 1);
        due.is(counter + ": LAST", x.of(0, 4), taken ? counter : 63);
        due.is(counter + ": GAPS", x.of(0, 7), taken ? gaps + counter : gaps);
        due.is(counter + ": TAKEN", x.of(0, 6), taken ? letters + 1 : letters);
        due.is(counter + ": MARGINS", x.of(0, 5), taken ? 1 : 0);
    }

    private static void takenSinceByAJoining() {
        due.sentence("(COUNTER less LAST ..) no more 1 .. 32; a JOINING that is taken: LAST is 63");
        letterBehindAJoining(63, false);
        letterBehindAJoining(62, false);
        letterBehindAJoining(41, false);
        letterBehindAJoining(0, true);
        letterBehindAJoining(8, true);
        // 32 and 31 are 33 and 32 ahead of 63; they open while LAST is 10
        for (int counter : new int[] {31, 32}) {
            StarSenders x = withLast(10);
            x.sender(0, 3, 0);
            x.sends(0);
            x.sender(0, 3, 1);
            x.sender(0, 2, counter);
            x.sends(0);
            due.is(counter + " behind a JOINING", x.ticks(4), counter == 31 ? 2 : 1);
            due.is("REPLAYS", x.all(4), counter == 31 ? 0 : 1);
            due.is("GAPS", x.of(0, 7), counter == 31 ? 10 + 31 : 10);
        }
    }

    private static void gapsLessOne() {
        due.sentence("GAPS are more by that number less 1, LAST is its COUNTER");
        int[][] cases = {{1, 0}, {2, 1}, {31, 30}, {32, 31}};
        for (int[] c : cases) {
            StarSenders x = Due.joined(0);
            x.sender(0, 2, c[0] - 1);
            x.sends(0);
            due.is("taken", x.ticks(4), 1);
            due.is("GAPS by " + c[0], x.of(0, 7), c[1]);
            due.is("LAST", x.of(0, 4), c[0] - 1);
            due.is("of another one none", x.of(1, 7), 0);
        }
    }

    private static void gapsGoOn() {
        due.sentence("GAPS are more by that number less 1");
        StarSenders x = Due.joined(0);
        int gaps = 0;
        int counter = 63;
        for (int k = 0; k < 5; k++) {
            counter = (counter + 32) % 64;
            x.sender(0, 2, counter);
            due.taking(x, 0, 1);
            gaps += 31;
            due.is("GAPS", x.of(0, 7), gaps);
            due.is("LAST", x.of(0, 4), counter);
        }
    }

    private static void bestOfLikeOnes() {
        due.sentence("BEST: the copy of the greatest MARGIN, of like ones the least GATE");
        int[][] gains = {{20, 20, 20, 20}, {19, 20, 20, 20}, {19, 19, 20, 20}, {19, 19, 19, 20}, {20, 19, 19, 20},
            {0, 1, 0, 1}, {0, 0, 0, 0}};
        int[] best = {0, 1, 2, 3, 0, 1, 0};
        for (int k = 0; k < gains.length; k++) {
            for (int late = 0; late < 4; late++) {
                StarSenders x = new StarSenders();
                x.sets(1, 4);
                x.sender(0, 3, 1);
                x.gate(late, 0, 2);
                for (int j = 0; j < 4; j++) {
                    x.gain(0, j, gains[k][j]);
                }
                due.taking(x, 0, 1);
                for (int j = 0; j < 4; j++) {
                    due.is("case " + k + ": BEST of " + j, x.at(j, 3), j == best[k] ? 1 : 0);
                }
                due.marginsAre("its MARGIN is noted", x, 0, gains[k][best[k]] + 8);
            }
        }
    }

    /**
     * All 64 counters and a joining of all six, open at once: 0 .. 30 open behind 31, 32 .. 63 once 31
     * is taken, and 31 itself once more behind a joining that makes LAST 63 again.
     */
    private static void mostWindows() {
        due.sentence("is a WINDOW open for that SENDER and COUNTER (or JOINING), it is added to it .. else .. a WINDOW opens");
        StarSenders x = new StarSenders();
        x.sets(0, 6);
        x.sets(1, 1);
        x.sets(2, 9);
        Due.types(x, "s0;s1;s2;s3;s4;s5;");
        join(x, 31);
        doesAndPasses(x, 1);
        x.ticks(3);
        renewAll(x);
        doesAndPasses(x, 1);
        x.ticks(1);
        join(x, 0);
        for (int letters : new int[] {8, 8, 8, 7}) {
            doesAndPasses(x, letters);
        }
        due.is("31 is taken at 10", x.all(2), 6);
        join(x, 32);
        for (int k = 0; k < 4; k++) {
            doesAndPasses(x, 8);
        }
        due.is("JOININGS are taken at 14", x.all(3), 6);
        join(x, 31);
        x.does();
        renewAll(x);
        doesAndPasses(x, 1);
        due.is("all are open", x.all(1), 6 * 65);
        due.is("none is merged", x.all(7), 0);
        due.windowIs("the first", x, 0, 0, 0, 1, 1);
        due.windowIs("0 .. 30", x, 6 * 31 - 1, 5, 30, 1, 4);
        due.windowIs("32 .. 63", x, 6 * 31, 0, 32, 1, 5);
        due.windowIs("32 .. 63", x, 6 * 63 - 1, 5, 63, 1, 8);
        due.windowIs("31 once more", x, 6 * 63, 0, 31, 1, 9);
        due.windowIs("JOININGS", x, 6 * 64, 0, -1, 1, 9);
        due.windowIs("the last", x, 6 * 65 - 1, 5, -1, 1, 9);
        due.is("no more", x.window(6 * 65, 0), -1);
        due.is("0 .. 30", x.ticks(4), 6 * 31);
        due.windowIs("32 .. 63 move up", x, 0, 0, 32, 1, 1);
        due.windowIs("the last", x, 6 * 34 - 1, 5, -1, 1, 5);
        due.is("32 .. 63, 31 and the JOININGS", x.ticks(5), 6 * 34);
        due.is("no REPLAYS", x.all(4), 0);
        due.senderIs("31 was 32 ahead twice, 32 was 2 ahead", x, 5, 0, 4, 0, x.of(5, 3), 63, 0, 65, 31 + 31 + 1);
        due.is("none is refused", x.told(0) + x.told(1) + x.told(2), 0);
    }

    private static void renewAll(StarSenders x) {
        for (int i = 0; i < 6; i++) {
            x.renews(i);
        }
    }

    private static void join(StarSenders x, int counter) {
        for (int i = 0; i < 6; i++) {
            x.sender(i, 3, 1);
            x.sender(i, 2, counter);
        }
    }

    private static void doesAndPasses(StarSenders x, int times) {
        for (int k = 0; k < times; k++) {
            x.does();
        }
        x.ticks(1);
    }
}
