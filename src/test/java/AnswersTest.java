/** Promises 9, 11, 14, 15: how fast and how loud, what an answer costs, who sends it, and which are lost. */
public final class AnswersTest {
    private static final Due due = new Due();

    public static void main(String[] args) {
        fasterThenSofter();
        softerAlone();
        louderThenSlower();
        greatestOfTheFourCounts();
        nothingOtherwise();
        everyTuning();
        lostAnswerTakesTheMargins();
        lostJoining();
        nextGateThatCanPay();
        gateThatDidNotHearIsNotAsked();
        costByTheRateAhead();
        answerToOneNotJoined();
        budgetsOfSixtyTicks();
        budgetMadeLess();
        due.end();
    }

    private static void tunes(String when, int rate, int power, int gain, int rateDue, int powerDue) {
        StarSenders x = Due.oneGate(rate, power, gain);
        int cost = 6 - rate;
        boolean otherwise = rate != rateDue || power != powerDue;
        due.taking(x, 0, 3);
        due.senderIs(when + ", ahead", x, 0, rate, power, 3, 1, 2, 3);
        due.taking(x, 0, 1);
        due.senderIs(when, x, 0, rateDue, powerDue, 4, 1, 3, otherwise ? 0 : 4, 4, 0);
        due.gateIs(when, x, 0, 4, otherwise ? 1 : 0, otherwise ? 10 - cost : 10, 4);
        due.is(when + ": ANSWERS", x.all(5), otherwise ? 1 : 0);
        due.is(when + ": LOST", x.all(6), 0);
    }

    private static void fasterThenSofter() {
        tunes("28 less 6 is 4 times 5 and 2", 0, 4, 20, 4, 3);
        tunes("68 less 6", 0, 4, 60, 5, 0);
        tunes("11 less 6 is 5", 0, 4, 3, 1, 4);
        tunes("10 less 6 is 4", 0, 4, 2, 0, 2);
    }

    private static void softerAlone() {
        tunes("at RATE 5", 5, 4, 27, 5, 2);
        tunes("8 less 6 is 2", 5, 4, 25, 5, 3);
        tunes("7 less 6 is 1", 5, 4, 24, 5, 4);
    }

    private static void louderThenSlower() {
        tunes("5 less 6", 1, 2, 6, 1, 3);
        tunes("0 less 6 is 3 times 2", 1, 0, 5, 1, 3);
        tunes("0 less 6 at POWER 3", 2, 3, 4, 1, 4);
        tunes("0 less 6 at POWER 4", 3, 4, 7, 1, 4);
        tunes("1 less 6 at POWER 4", 4, 4, 13, 3, 4);
        tunes("2 less 6 at POWER 3", 1, 3, 1, 0, 4);
        tunes("1 less 6 at RATE 0", 0, 0, 1, 0, 3);
    }

    /** Of all RATES, POWERS and GAINS that are heard: as the words say it, step by step. */
    private static void everyTuning() {
        for (int rate = 0; rate <= 5; rate++) {
            for (int power = 0; power <= 4; power++) {
                for (int gain = 0; gain <= 60; gain++) {
                    int margin = gain + 2 * power - 5 * rate;
                    if (margin >= 0) {
                        int[] wanted = asTold(rate, power, margin - 6);
                        tunes("RATE " + rate + " POWER " + power + " GAIN " + gain, rate, power, gain, wanted[0], wanted[1]);
                    }
                }
            }
        }
    }

    private static int[] asTold(int rate, int power, int m) {
        if (m >= 0) {
            int faster = Math.min(m / 5, 5 - rate);
            int softer = Math.min((m - 5 * faster) / 2, power);
            return new int[] {rate + faster, power - softer};
        }
        int louder = Math.min((1 - m) / 2, 4 - power);
        int still = m + 2 * louder;
        int slower = still < 0 ? Math.min((4 - still) / 5, rate) : 0;
        return new int[] {rate - slower, power + louder};
    }

    private static void greatestOfTheFourCounts() {
        for (int k = 0; k < 4; k++) {
            StarSenders x = Due.oneGate(0, 4, 0);
            for (int letter = 0; letter < 4; letter++) {
                x.gain(0, 0, letter == k ? 8 : 0);
                due.taking(x, 0, 1);
            }
            due.senderIs("16 less 6", x, 0, 2, 4);
        }
    }

    private static void nothingOtherwise() {
        StarSenders x = Due.oneGate(0, 3, 1);
        due.taking(x, 0, 6);
        due.senderIs("7 less 6", x, 0, 0, 3, 6, 1, 5, 4, 6, 0);
        x.gain(0, 0, 2);
        due.taking(x, 0, 1);
        due.senderIs("8 less 6", x, 0, 0, 2, 7, 1, 6, 0, 7, 0);
        StarSenders y = Due.oneGate(0, 3, 2);
        due.taking(y, 0, 3);
        y.sender(0, 1, 0);
        y.gain(0, 0, 0);
        due.taking(y, 0, 1);
        due.senderIs("8 less 6 but POWER is 0 already", y, 0, 0, 0, 4, 1, 3, 4, 4, 0);
        due.taking(y, 0, 3);
        due.marginsAre("one is asked each time", y, 0);
        due.senderIs("0 less 6", y, 0, 0, 3);
        StarSenders z = Due.oneGate(5, 0, 25);
        due.taking(z, 0, 3);
        z.sends(0);
        z.sender(0, 0, 0);
        z.sender(0, 1, 4);
        due.is("ticks(4)", z.ticks(4), 1);
        due.senderIs("0 less 6, but it can't be louder nor slower", z, 0, 0, 4, 4, 1, 3, 4, 4, 0);
        due.is("no ANSWER", z.all(5) + z.all(6), 0);
    }

    private static void lostAnswerTakesTheMargins() {
        StarSenders x = Due.oneGate(0, 4, 20);
        x.gate(0, 1, 5);
        due.taking(x, 0, 4);
        due.senderIs("LOST", x, 0, 0, 4, 4, 1, 3, 0, 4, 0);
        due.is("LOST", x.all(6), 1);
        due.is("ANSWERS", x.all(5), 0);
        due.gateIs("LOST", x, 0, 4, 0, 5, 4);
        x.gate(0, 1, 6);
        due.taking(x, 0, 4);
        due.senderIs("answered", x, 0, 4, 3);
        due.gateIs("answered", x, 0, 8, 1, 0, 8);
    }

    private static void lostJoining() {
        StarSenders x = new StarSenders();
        x.gate(0, 1, 5);
        x.gate(1, 1, 0);
        x.sender(0, 2, 17);
        x.sends(0);
        due.is("TAKEN all the same", x.ticks(4), 1);
        due.senderIs("LOST", x, 0, 0, 4, 17, 0, 63, 0, 0, 0);
        due.allIs("LOST", x, 0, 0, 0, 1, 0, 0, 1, 1, 4);
        x.sender(0, 0, 1);
        x.sends(0);
        due.is("cost is 5", x.ticks(4), 1);
        due.senderIs("answered", x, 0, 1, 4, 0, 1);
        due.gateIs("answered", x, 0, 2, 1, 0, 0);
    }

    private static void nextGateThatCanPay() {
        StarSenders x = new StarSenders();
        x.sets(1, 4);
        x.sets(0, 6);
        int[] gain = {10, 30, 10, 30};
        int[] order = {1, 3, 0, 2};
        for (int i = 0; i < 6; i++) {
            for (int j = 0; j < 4; j++) {
                x.gain(i, j, gain[j]);
                x.gate(j, 1, 6 + j % 2);
            }
        }
        int[] answers = new int[4];
        for (int i = 0; i < 4; i++) {
            x.sends(i);
            x.ticks(4);
            answers[order[i]]++;
            for (int j = 0; j < 4; j++) {
                due.is("ANSWERS of " + j, x.at(j, 1), answers[j]);
            }
            due.is("JOINED", x.of(i, 3), 1);
        }
        x.sends(4);
        due.is("ticks(4)", x.ticks(4), 1);
        due.is("LOST", x.all(6), 1);
        due.is("ANSWERS", x.all(5), 4);
        due.is("not JOINED", x.of(4, 3), 0);
    }

    private static void gateThatDidNotHearIsNotAsked() {
        StarSenders x = new StarSenders();
        x.gain(0, 1, 0);
        x.sender(0, 0, 2);
        x.gate(0, 1, 3);
        x.sends(0);
        x.ticks(4);
        due.is("LOST", x.all(6), 1);
        due.gateIs("did not hear", x, 1, 0, 0, 10, 0);
    }

    private static void costByTheRateAhead() {
        for (int rate = 0; rate <= 5; rate++) {
            StarSenders x = new StarSenders();
            x.gain(0, 0, 60);
            x.sender(0, 0, rate);
            x.sends(0);
            x.ticks(4);
            due.is("at RATE " + rate, x.at(0, 2), 10 - (6 - rate));
        }
        StarSenders x = Due.oneGate(1, 4, 60);
        due.taking(x, 0, 4);
        due.is("RATE behind", x.of(0, 0), 5);
        due.is("cost by RATE ahead", x.at(0, 2), 5);
    }

    private static void answerToOneNotJoined() {
        StarSenders x = Due.oneGate(0, 4, 20);
        due.taking(x, 0, 3);
        x.sends(0);
        x.ticks(1);
        x.renews(0);
        due.is("ticks(3)", x.ticks(3), 1);
        due.senderIs("it does nothing", x, 0, 0, 4, 0, 0, 3, 0, 4, 0);
        due.gateIs("it is sent", x, 0, 4, 1, 4, 4);
        due.is("ANSWERS", x.all(5), 1);
        due.is("LOST", x.all(6), 0);
    }

    private static void budgetsOfSixtyTicks() {
        StarSenders x = new StarSenders();
        x.ticks(56);
        x.sends(0);
        due.is("closes at 60", x.ticks(4), 1);
        due.gateIs("at 60", x, 0, 1, 1, 4, 0);
        x.ticks(1);
        due.gateIs("from 61 on", x, 0, 1, 1, 10, 0);
        StarSenders y = new StarSenders();
        y.gate(0, 1, 6);
        y.gate(1, 1, 0);
        y.ticks(56);
        y.sends(0);
        y.ticks(1);
        y.sends(1);
        due.is("close at 60 and 61", y.ticks(4), 2);
        due.is("each BUDGET has as much", y.all(5), 2);
        due.gateIs("at 61", y, 0, 2, 2, 0, 0);
        y.ticks(59);
        due.is("at 120", y.at(0, 2), 0);
        y.ticks(1);
        due.is("at 121", y.at(0, 2), 6);
        y.gate(0, 1, 40);
        due.is("more BUDGET", y.at(0, 2), 40);
    }

    private static void budgetMadeLess() {
        StarSenders x = new StarSenders();
        x.sends(0);
        x.ticks(4);
        x.gate(0, 1, 2);
        due.is("below 0", x.at(0, 2), -4);
        x.sends(1);
        x.ticks(4);
        due.is("the other answers", x.at(1, 1), 1);
        x.gate(0, 1, 12);
        x.sends(2);
        x.ticks(4);
        due.gateIs("just as much is left", x, 0, 3, 2, 0, 0);
    }
}
