/** Promises 9, 11, 12, 14, 15, 16: what the house takes, windows, replays, gaps, and who was best. */
public final class HouseTest {
    private static final Due due = new Due();

    public static void main(String[] args) {
        ticksPass();
        windowOpensAndCloses();
        copiesComeAheadOfClosing();
        copiesOfLettersByTurns();
        copyBehindClosingIsAReplay();
        joiningBehindClosingIsAnother();
        windowsOfEveryLength();
        counterAhead();
        countersGoRound();
        oldWindowBecomesReplay();
        joiningMakesOlderWindowsReplays();
        windowsAsTheyWereOpened();
        greaterMarginOfAGateCounts();
        bestIsTheLeastGateOfLikeOnes();
        marginsMoveOn();
        joiningIsTaken();
        refusedReads();
        due.end();
    }

    private static void ticksPass() {
        StarSenders x = new StarSenders();
        due.is("ticks(1)", x.ticks(1), 0);
        due.is("ticks(99)", x.ticks(99), 0);
        due.is("all(8)", x.all(8), 100);
        due.is("ticks(0)", x.ticks(0), -2);
        due.is("ticks(100)", x.ticks(100), -2);
        due.is("ticks(-1)", x.ticks(-1), -2);
        due.refusedAre("ticks refused", x, 3, 0, 0);
        due.is("all(8)", x.all(8), 100);
    }

    private static void windowOpensAndCloses() {
        StarSenders x = Due.joined(0);
        x.sends(0);
        due.is("ticks(1)", x.ticks(1), 0);
        due.windowIs("opened", x, 0, 0, 0, 3, 3);
        due.allIs("opened", x, 0, 1, 0, 0, 0, 0, 0, 1, 1);
        x.ticks(1);
        due.is("TICKS until it closes", x.window(0, 3), 2);
        x.ticks(1);
        due.is("TICKS until it closes", x.window(0, 3), 1);
        due.is("closes", x.ticks(1), 1);
        due.allIs("closed", x, 0, 0, 1, 0, 0, 0, 0, 1, 4);
        due.senderIs("taken", x, 0, 0, 4, 1, 1, 0, 1, 1, 0);
        due.gateIs("BEST", x, 0, 1, 0, 10, 1);
        due.gateIs("not BEST", x, 1, 1, 0, 10, 0);
    }

    private static void copiesComeAheadOfClosing() {
        StarSenders x = Due.joined(0);
        x.gate(1, 0, 3);
        x.gain(0, 1, 30);
        x.sends(0);
        x.ticks(3);
        due.windowIs("one is still to come", x, 0, 0, 0, 1, 1);
        due.is("closes", x.ticks(1), 1);
        due.is("merged as it closes", x.all(7), 1);
        due.is("no REPLAY", x.all(4), 0);
        due.marginsAre("BEST came last", x, 0, 38);
        due.is("BEST", x.at(1, 3), 1);
    }

    private static void copiesOfLettersByTurns() {
        StarSenders x = Due.joined(0);
        x.gate(0, 0, 2);
        x.sends(0);
        x.sends(0);
        x.ticks(1);
        due.windowIs("of GATE 1", x, 0, 0, 0, 2, 3);
        due.windowIs("of GATE 1", x, 1, 0, 1, 2, 3);
        x.ticks(2);
        due.windowIs("of both", x, 0, 0, 0, 3, 1);
        due.windowIs("of both", x, 1, 0, 1, 3, 1);
    }

    private static void copyBehindClosingIsAReplay() {
        StarSenders x = Due.joined(0);
        x.gate(1, 0, 4);
        x.gain(0, 1, 30);
        x.sends(0);
        due.is("ticks(9)", x.ticks(9), 1);
        due.is("merged", x.all(7), 0);
        due.is("REPLAYS", x.all(4), 1);
        due.marginsAre("the other came too late", x, 0, 28);
        due.is("BEST", x.at(0, 3), 1);
    }

    private static void joiningBehindClosingIsAnother() {
        StarSenders x = new StarSenders();
        x.gate(1, 0, 4);
        x.sends(0);
        due.is("ticks(9)", x.ticks(9), 2);
        due.allIs("two JOININGS", x, 0, 0, 0, 2, 0, 2, 0, 0, 9);
        due.gateIs("each answered by the one that heard it", x, 0, 1, 1, 4, 0);
        due.gateIs("each answered by the one that heard it", x, 1, 1, 1, 4, 0);
    }

    private static void windowsOfEveryLength() {
        for (int length = 1; length <= 9; length++) {
            StarSenders x = new StarSenders();
            x.sets(2, length);
            x.sender(0, 3, 1);
            x.sends(0);
            x.ticks(1);
            due.is("TICKS until it closes", x.window(0, 3), length);
            due.is("open", length == 1 ? 0 : x.ticks(length - 1), 0);
            due.is("open", x.all(1), 1);
            due.is("closes", x.ticks(1), 1);
            due.is("closed", x.all(1), 0);
        }
    }

    private static void counterAhead() {
        int[][] cases = {{0, 0}, {1, 1}, {2, 1}, {31, 1}, {32, 1}, {33, 0}, {34, 0}, {63, 0}};
        for (int last : new int[] {7, 21, 42, 63}) {
            for (int[] c : cases) {
                StarSenders x = Due.joined(0);
                for (int counter = 7; x.of(0, 4) != last && counter < 64; counter += 7) {
                    x.sender(0, 2, counter);
                    x.sends(0);
                    x.ticks(4);
                }
                int gaps = x.of(0, 7);
                int taken = x.of(0, 6);
                int replays = x.all(4);
                due.is("LAST", x.of(0, 4), last);
                x.sender(0, 2, (last + c[0]) % 64);
                x.sends(0);
                due.is(c[0] + " ahead of " + last, x.ticks(4), c[1]);
                due.is("TAKEN", x.of(0, 6), taken + c[1]);
                due.is("GAPS", x.of(0, 7), c[1] == 1 ? gaps + c[0] - 1 : gaps);
                due.is("REPLAYS, of each copy", x.all(4), c[1] == 1 ? replays : replays + 2);
                due.is("LAST", x.of(0, 4), c[1] == 1 ? (last + c[0]) % 64 : last);
            }
        }
    }

    private static void countersGoRound() {
        StarSenders x = Due.joined(0);
        x.sender(0, 2, 31);
        x.sends(0);
        x.ticks(4);
        x.sender(0, 2, 62);
        for (int k = 0; k < 4; k++) {
            x.sends(0);
            due.is("ticks(4)", x.ticks(4), 1);
        }
        due.is("LAST", x.of(0, 4), 1);
        due.is("COUNTER", x.of(0, 2), 2);
        due.is("GAPS", x.of(0, 7), 31 + 30);
        due.is("REPLAYS", x.all(4), 0);
    }

    private static void oldWindowBecomesReplay() {
        StarSenders x = Due.joined(0);
        x.sender(0, 2, 20);
        x.sends(0);
        x.sender(0, 2, 5);
        x.sends(0);
        x.ticks(1);
        due.is("two WINDOWS", x.all(1), 2);
        due.is("one is taken", x.ticks(3), 1);
        due.allIs("the other is a REPLAY", x, 0, 0, 1, 0, 1, 0, 0, 2, 4);
        due.senderIs("one is taken", x, 0, 0, 4, 6, 1, 20, 1, 1, 20);
        due.marginsAre("one is taken", x, 0, 28);
        due.is("BEST of one", x.at(0, 3), 1);
    }

    private static void joiningMakesOlderWindowsReplays() {
        StarSenders x = Due.joined(0);
        x.sender(0, 2, 20);
        x.sends(0);
        x.ticks(4);
        x.renews(0);
        x.sends(0);
        x.sender(0, 3, 1);
        x.sender(0, 2, 40);
        x.sends(0);
        x.ticks(1);
        due.is("two WINDOWS", x.all(1), 2);
        due.is("JOINING alone is taken", x.ticks(3), 1);
        due.is("40 is 41 ahead of 63", x.all(4), 1);
        due.is("LAST", x.of(0, 4), 63);
    }

    private static void windowsAsTheyWereOpened() {
        StarSenders x = Due.joined(0, 1, 2);
        x.gate(0, 0, 1);
        x.gain(2, 1, 0);
        x.sender(2, 0, 2);
        x.sends(2);
        x.sends(0);
        x.sends(1);
        x.sends(0);
        x.ticks(1);
        due.windowIs("of GATE 1", x, 0, 0, 0, 2, 3);
        due.windowIs("of GATE 1", x, 1, 1, 0, 2, 3);
        due.windowIs("of GATE 1", x, 2, 0, 1, 2, 3);
        due.windowIs("not so many", x, 3, -1, -1, -1, -1);
        x.ticks(1);
        due.windowIs("both", x, 0, 0, 0, 3, 2);
        due.windowIs("opened last, sent first", x, 3, 2, 0, 1, 3);
        due.is("three close", x.ticks(2), 3);
        due.windowIs("the last", x, 0, 2, 0, 1, 1);
        due.windowIs("not so many", x, 1, -1, -1, -1, -1);
        due.is("it closes", x.ticks(1), 1);
    }

    private static void greaterMarginOfAGateCounts() {
        int[][] gains = {{30, 10}, {10, 30}};
        for (int[] gain : gains) {
            StarSenders x = Due.joined(0);
            x.gain(0, 1, 0);
            x.gain(0, 0, gain[0]);
            x.sends(0);
            x.gain(0, 0, gain[1]);
            x.again(0);
            x.ticks(4);
            due.marginsAre("the greater", x, 0, 38);
            due.is("merged", x.all(7), 3);
        }
    }

    private static void bestIsTheLeastGateOfLikeOnes() {
        StarSenders x = new StarSenders();
        x.sets(1, 4);
        x.sender(0, 3, 1);
        int[][] gains = {{5, 9, 9, 8}, {5, 5, 5, 5}, {1, 2, 3, 4}, {0, 0, 7, 7}};
        int[] best = {1, 0, 3, 2};
        int[] taken = new int[4];
        for (int k = 0; k < 4; k++) {
            for (int j = 0; j < 4; j++) {
                x.gain(0, j, gains[k][j]);
                x.gate(j, 0, 3 - j);
            }
            x.sends(0);
            due.is("ticks(9)", x.ticks(9), 1);
            taken[best[k]]++;
            for (int j = 0; j < 4; j++) {
                due.is("BEST " + j, x.at(j, 3), taken[j]);
            }
        }
    }

    private static void marginsMoveOn() {
        // a greatest MARGIN of 6 or 7 leaves RATE and POWER as they are, so no ANSWER takes the MARGINS
        StarSenders x = new StarSenders();
        x.sets(1, 1);
        x.sender(0, 3, 1);
        x.sender(0, 1, 3);
        int[] gain = {0, 1, 0, 1, 1, 0, 0};
        for (int k = 0; k < 7; k++) {
            x.gain(0, 0, gain[k]);
            x.sends(0);
            x.ticks(4);
            due.is("MARGINS", x.of(0, 5), Math.min(k + 1, 4));
        }
        due.marginsAre("the last four", x, 0, 7, 7, 6, 6);
        due.is("no ANSWER", x.all(5) + x.all(6), 0);
        due.is("margin(0, MAX)", x.margin(0, Integer.MAX_VALUE), -1000);
    }

    private static void joiningIsTaken() {
        StarSenders x = Due.joined(0);
        x.sender(0, 2, 9);
        x.sends(0);
        x.sends(0);
        x.ticks(4);
        due.marginsAre("two letters", x, 0, 28, 28);
        x.renews(0);
        x.sender(0, 0, 1);
        x.sender(0, 1, 2);
        x.sender(0, 2, 30);
        x.sends(0);
        due.is("JOINING", x.ticks(4), 1);
        due.senderIs("JOINED", x, 0, 1, 2, 0, 1, 63, 0, 2, 9);
        due.marginsAre("none", x, 0);
        due.allIs("JOINED", x, 0, 0, 2, 1, 0, 1, 0, 3, 8);
        due.gateIs("answered at the cost of 5", x, 0, 3, 1, 5, 2);
        due.gateIs("did not answer", x, 1, 3, 0, 10, 0);
    }

    private static void refusedReads() {
        StarSenders x = new StarSenders();
        int bad = 0;
        int[][] wrong = {{-1, 0}, {3, 0}, {0, -1}, {0, 8}};
        for (int[] w : wrong) {
            due.is("of(" + w[0] + ", " + w[1] + ")", x.of(w[0], w[1]), -2);
            due.is("told(0)", x.told(0), ++bad);
        }
        int[][] wrongMargin = {{-1, 0}, {3, 0}, {0, -1}, {0, Integer.MIN_VALUE}};
        for (int[] w : wrongMargin) {
            due.is("margin(" + w[0] + ", " + w[1] + ")", x.margin(w[0], w[1]), -2);
            due.is("told(0)", x.told(0), ++bad);
        }
        int[][] wrongAt = {{-1, 0}, {2, 0}, {0, -1}, {0, 4}};
        for (int[] w : wrongAt) {
            due.is("at(" + w[0] + ", " + w[1] + ")", x.at(w[0], w[1]), -2);
            due.is("told(0)", x.told(0), ++bad);
        }
        int[][] wrongWindow = {{-1, 0}, {0, -1}, {0, 4}, {9, 4}};
        for (int[] w : wrongWindow) {
            due.is("window(" + w[0] + ", " + w[1] + ")", x.window(w[0], w[1]), -2);
            due.is("told(0)", x.told(0), ++bad);
        }
        for (int what : new int[] {-1, 9}) {
            due.is("all(" + what + ")", x.all(what), -2);
            due.is("told(0)", x.told(0), ++bad);
        }
        due.is("window(0, 0)", x.window(0, 0), -1);
        due.is("margin(0, 0)", x.margin(0, 0), -1000);
        due.refusedAre("what is not there is not refused", x, bad, 0, 0);
    }
}
