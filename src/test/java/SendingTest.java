/** Promises 7, 8, 10, 13, 17: sends, again, renews, hears, copy. */
public final class SendingTest {
    private static final Due due = new Due();

    public static void main(String[] args) {
        hears();
        sends();
        counterGoesRound();
        copiesAsTheyWereSent();
        fullAboveFiftySix();
        fullWithFourGates();
        againSendsTheSame();
        againByTheRateOfNow();
        againOfAJoiningByAJoinedOne();
        againRefuses();
        renews();
        renewsLeavesTheHouse();
        due.end();
    }

    private static void hears() {
        StarSenders x = new StarSenders();
        x.sender(0, 0, 3);
        x.sender(0, 1, 1);
        due.is("hears(0, 0)", x.hears(0, 0), 20 + 2 - 15);
        x.sender(0, 0, 5);
        x.sender(0, 1, 0);
        x.gain(0, 1, 0);
        due.is("hears(0, 1)", x.hears(0, 1), -25);
        x.gain(0, 1, 60);
        due.is("hears(0, 1)", x.hears(0, 1), 35);
        int[][] wrong = {{-1, 0}, {3, 0}, {0, -1}, {0, 2}};
        for (int[] w : wrong) {
            due.is("hears(" + w[0] + ", " + w[1] + ")", x.hears(w[0], w[1]), -2000);
        }
        due.refusedAre("hears refused", x, 4, 0, 0);
    }

    private static void sends() {
        StarSenders x = Due.joined(0);
        x.gain(0, 0, 0);
        x.gain(0, 1, 1);
        x.sender(0, 0, 1);
        x.sender(0, 1, 2);
        due.is("at margins -1 and 0", x.sends(0), 1);
        due.copyIs("heard at 0", x, 0, 0, 1, 1);
        due.is("COUNTER", x.of(0, 2), 1);
        due.is("at(0, 0)", x.at(0, 0), 0);
        due.is("at(1, 0)", x.at(1, 0), 1);
        x.gain(0, 1, 0);
        due.is("heard by none", x.sends(0), 0);
        due.is("COUNTER goes on", x.of(0, 2), 2);
        due.is("all(0)", x.all(0), 1);
        due.is("a JOINING", x.sends(1), 2);
        due.is("COUNTER stays", x.of(1, 2), 0);
        x.sender(1, 2, 40);
        x.sends(1);
        due.is("COUNTER stays at 40", x.of(1, 2), 40);
        due.is("sends(-1)", x.sends(-1), -2);
        due.is("sends(3)", x.sends(3), -2);
        due.refusedAre("sends refused", x, 2, 0, 0);
    }

    private static void counterGoesRound() {
        StarSenders x = Due.joined(2);
        x.sender(2, 2, 62);
        x.sends(2);
        due.is("COUNTER", x.of(2, 2), 63);
        x.sends(2);
        due.is("COUNTER goes round", x.of(2, 2), 0);
    }

    private static void copiesAsTheyWereSent() {
        StarSenders x = new StarSenders();
        x.gate(0, 0, 5);
        x.sends(1);
        x.ticks(1);
        x.sends(0);
        x.gate(0, 0, 1);
        x.sends(2);
        due.is("all(0)", x.all(0), 5);
        due.copyIs("sent at 0", x, 0, 1, 0, 5);
        due.copyIs("sent at 1", x, 1, 0, 0, 6);
        due.copyIs("sent at 1", x, 2, 0, 1, 1);
        due.copyIs("by another LAG", x, 3, 2, 0, 2);
        due.copyIs("by another LAG", x, 4, 2, 1, 1);
        due.copyIs("not so many", x, 5, -1, -1, -1);
        due.is("copy(MAX, 0)", x.copy(Integer.MAX_VALUE, 0), -1);
        x.ticks(1);
        due.copyIs("one more", x, 0, 1, 0, 4);
        due.copyIs("one more", x, 1, 0, 0, 5);
        due.copyIs("one more", x, 2, 2, 0, 1);
        due.copyIs("one more", x, 3, -1, -1, -1);
        due.refusedAre("none refused", x, 0, 0, 0);
        due.is("copy(-1, 0)", x.copy(-1, 0), -2);
        due.is("copy(0, -1)", x.copy(0, -1), -2);
        due.is("copy(0, 3)", x.copy(0, 3), -2);
        due.is("copy(99, 3)", x.copy(99, 3), -2);
        due.refusedAre("copy refused", x, 4, 0, 0);
    }

    private static void fullAboveFiftySix() {
        StarSenders x = new StarSenders();
        x.sets(1, 1);
        x.sender(0, 3, 1);
        for (int k = 0; k < 56; k++) {
            due.is("sends(0)", x.sends(0), 1);
        }
        due.is("with 56 on their way", x.sends(0), 1);
        due.is("all(0)", x.all(0), 57);
        due.is("with 57", x.sends(0), -4);
        due.is("again with 57", x.again(0), -4);
        due.is("NO is ahead of FULL", x.again(1), -3);
        due.is("BAD is ahead of FULL", x.sends(3), -2);
        due.is("BAD is ahead of FULL", x.again(3), -2);
        due.refusedAre("FULL", x, 2, 1, 2);
        due.is("COUNTER stays", x.of(0, 2), 57);
        due.is("all(0)", x.all(0), 57);
        due.is("at(0, 0)", x.at(0, 0), 57);
        x.sender(1, 0, 5);
        x.gain(1, 0, 0);
        due.is("FULL, would none hear it, too", x.sends(1), -4);
        due.is("it is not sent", x.again(1), -3);
        x.ticks(1);
        due.is("they have come", x.sends(0), 1);
    }

    private static void fullWithFourGates() {
        StarSenders x = new StarSenders();
        x.sets(1, 4);
        for (int k = 0; k < 15; k++) {
            due.is("sends(0)", x.sends(0), 4);
        }
        due.is("all(0)", x.all(0), 60);
        due.is("with 60", x.sends(0), -4);
        due.copyIs("the last", x, 59, 0, 3, 1);
        due.is("none behind it", x.copy(60, 0), -1);
    }

    private static void againSendsTheSame() {
        StarSenders x = Due.joined(0);
        x.sends(0);
        x.sends(0);
        x.sender(0, 2, 50);
        due.is("again(0)", x.again(0), 2);
        due.is("COUNTER stays", x.of(0, 2), 50);
        due.is("at(0, 0)", x.at(0, 0), 3);
        x.ticks(1);
        due.is("two WINDOWS", x.all(1), 2);
        due.windowIs("the first", x, 0, 0, 0, 3, 3);
        due.windowIs("sent twice", x, 1, 0, 1, 3, 3);
        due.is("merged", x.all(7), 4);
        due.is("again, again", x.again(0), 2);
        x.ticks(1);
        due.is("merged", x.all(7), 6);
    }

    private static void againByTheRateOfNow() {
        StarSenders x = Due.joined(0);
        x.gain(0, 0, 10);
        due.is("sends(0)", x.sends(0), 2);
        x.sender(0, 0, 4);
        x.sender(0, 1, 1);
        due.is("again(0)", x.again(0), 1);
        x.gain(0, 0, 60);
        x.sender(0, 0, 0);
        due.is("again(0)", x.again(0), 2);
        x.ticks(4);
        due.marginsAre("the greater counts", x, 0, 62);
        due.is("BEST is 0", x.at(0, 3), 1);
    }

    private static void againOfAJoiningByAJoinedOne() {
        StarSenders x = new StarSenders();
        x.sends(1);
        x.ticks(4);
        due.is("JOINED", x.of(1, 3), 1);
        due.is("again(1)", x.again(1), 2);
        x.ticks(1);
        due.windowIs("a JOINING", x, 0, 1, -1, 3, 3);
        StarSenders y = Due.joined(1);
        y.sends(1);
        y.sender(1, 3, 0);
        due.is("again(1)", y.again(1), 2);
        y.ticks(1);
        due.windowIs("a letter of one not JOINED", y, 0, 1, 0, 3, 3);
        due.is("one WINDOW", y.all(1), 1);
    }

    private static void againRefuses() {
        StarSenders x = new StarSenders();
        due.is("again(-1)", x.again(-1), -2);
        due.is("again(3)", x.again(3), -2);
        due.is("again(0)", x.again(0), -3);
        x.sends(1);
        due.is("again(0)", x.again(0), -3);
        due.refusedAre("again refused", x, 2, 2, 0);
        due.is("again(1)", x.again(1), 2);
    }

    private static void renews() {
        StarSenders x = Due.joined(0);
        x.sender(0, 0, 2);
        x.sender(0, 1, 3);
        x.sender(0, 2, 7);
        x.sends(0);
        due.is("renews(0)", x.renews(0), 1);
        due.senderIs("renewed", x, 0, 0, 4, 0, 0, 63, 0, 0, 0);
        due.is("renews(0)", x.renews(0), 0);
        due.is("again(0)", x.again(0), -3);
        due.is("on their way", x.all(0), 2);
        due.is("renews(-1)", x.renews(-1), -2);
        due.is("renews(3)", x.renews(3), -2);
        due.refusedAre("renews refused", x, 2, 1, 0);
    }

    private static void renewsLeavesTheHouse() {
        StarSenders x = Due.joined(0);
        x.sender(0, 2, 3);
        x.sends(0);
        x.ticks(4);
        x.sends(0);
        x.ticks(1);
        x.sends(0);
        due.is("renews(0)", x.renews(0), 1);
        due.senderIs("the house knows him still", x, 0, 0, 4, 0, 0, 3, 1, 1, 3);
        due.marginsAre("the house knows him still", x, 0, 28);
        due.windowIs("open still", x, 0, 0, 4, 3, 3);
        due.is("WINDOW and copies go on", x.ticks(4), 2);
        due.senderIs("taken", x, 0, 0, 4, 0, 0, 5, 3, 3, 3);
        x.sends(0);
        due.is("a JOINING", x.ticks(4), 1);
        due.senderIs("JOINED anew", x, 0, 0, 4, 0, 1, 63, 0, 3, 3);
    }
}
