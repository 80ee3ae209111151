/** The edges of answers that the terms name, a sentence each: joinings, rate and power, costs and budgets. */
public final class AnswerEdgesTest {
    private static final Due due = new Due();

    public static void main(String[] args) {
        joiningIsTaken();
        joiningOfAJoinedOne();
        joiningLost();
        threeAreTooFew();
        greatestOfThem();
        rateUp();
        powerDown();
        powerUp();
        rateDown();
        nothingOtherwise();
        marginsGoAnyway();
        costOfEachRate();
        rateAsItIsAhead();
        asMuchLeft();
        byMarginsFalling();
        ofLikeOnesByGates();
        gatesThatHeard();
        greaterOfTwoDecides();
        atOnce();
        notJoinedThen();
        joiningIsNotHeldBack();
        noneHas();
        sixtyTicks();
        budgetBelowNought();
        due.end();
    }

    private static void joiningIsTaken() {
        due.sentence("A JOINING that is taken: LAST is 63, MARGINS are none, an ANSWER is due that makes him JOINED, COUNTER 0");
        StarSenders x = Due.joined(0);
        due.taking(x, 0, 2);
        x.renews(0);
        x.sender(0, 0, 3);
        x.sender(0, 1, 1);
        x.sender(0, 2, 63);
        x.gain(0, 0, 60);
        x.sends(0);
        x.ticks(3);
        due.senderIs("not yet", x, 0, 3, 1, 63, 0, 1, 2, 2, 0);
        due.is("taken", x.ticks(1), 1);
        due.senderIs("RATE and POWER stay", x, 0, 3, 1, 0, 1, 63, 0, 2, 0);
        due.gateIs("BEST is not counted, the ANSWER is", x, 0, 3, 1, 7, 2);
        due.marginsAre("its MARGIN is not noted", x, 0);
        due.allIs("taken", x, 0, 0, 2, 1, 0, 1, 0, 3, 12);
    }

    private static void joiningOfAJoinedOne() {
        due.sentence("an ANSWER is due that makes him JOINED, COUNTER 0");
        StarSenders x = new StarSenders();
        x.sends(0);
        x.sender(0, 3, 1);
        x.sender(0, 2, 9);
        due.is("taken", x.ticks(4), 1);
        due.senderIs("he was JOINED meanwhile", x, 0, 0, 4, 0, 1, 63, 0, 0, 0);
        due.taking(x, 0, 2);
        x.renews(0);
        x.sends(0);
        x.sender(0, 3, 1);
        x.sender(0, 2, 5);
        x.ticks(1);
        x.renews(0);
        due.is("taken", x.ticks(3), 1);
        due.senderIs("renewed meanwhile: he is JOINED by it", x, 0, 0, 4, 0, 1, 63, 0, 2, 0);
        due.is("but has sent nothing since", x.again(0), -3);
    }

    private static void joiningLost() {
        due.sentence("A JOINING that is taken: LAST is 63, MARGINS are none .. Has none: it is LOST");
        StarSenders x = Due.joined(0);
        due.taking(x, 0, 3);
        x.renews(0);
        x.sender(0, 2, 40);
        x.gate(0, 1, 5);
        x.gate(1, 1, 5);
        x.sends(0);
        due.is("taken all the same", x.ticks(4), 1);
        due.senderIs("what the house knows is new, he is not", x, 0, 0, 4, 40, 0, 63, 0, 3, 0);
        due.allIs("LOST", x, 0, 0, 3, 1, 0, 0, 1, 4, 16);
        due.gateIs("it spends nothing", x, 0, 4, 0, 5, 3);
    }

    private static void threeAreTooFew() {
        due.sentence("Are 4 MARGINS noted, an ANSWER is due");
        for (int letters = 1; letters <= 4; letters++) {
            StarSenders x = Due.oneGate(0, 4, 60);
            due.taking(x, 0, letters);
            due.is("ANSWERS behind " + letters, x.all(5), letters == 4 ? 1 : 0);
            due.is("MARGINS behind " + letters, x.of(0, 5), letters == 4 ? 0 : letters);
            due.is("RATE behind " + letters, x.of(0, 0), letters == 4 ? 5 : 0);
        }
        // of two SENDERS two each are not four
        StarSenders x = Due.joined(0, 1);
        due.taking(x, 0, 2);
        due.taking(x, 1, 2);
        due.is("no ANSWER", x.all(5) + x.all(6), 0);
    }

    private static void greatestOfThem() {
        due.sentence("with M the greatest of them less 6");
        for (int greatest = 0; greatest < 4; greatest++) {
            StarSenders x = Due.oneGate(0, 4, 0);
            for (int k = 0; k < 4; k++) {
                x.gain(0, 0, k == greatest ? 8 : k);
                due.taking(x, 0, 1);
            }
            due.senderIs("16 less 6 is 10, letter " + greatest, x, 0, 2, 4, 4, 1, 3, 0);
        }
        // of five the oldest counts no more: 7 asks for nothing, then it is gone and 5 asks for POWER
        StarSenders x = Due.oneGate(0, 2, 3);
        due.taking(x, 0, 1);
        x.gain(0, 0, 1);
        due.taking(x, 0, 3);
        due.senderIs("7 is among them", x, 0, 0, 2, 4, 1, 3, 4);
        due.taking(x, 0, 1);
        due.senderIs("7 is gone", x, 0, 0, 3, 5, 1, 4, 0);
    }

    /** Four letters at this rate, power and margin; then rate and power are as due, by one answer or none. */
    private static void tunes(int rate, int power, int margin, int rateDue, int powerDue) {
        String when = "RATE " + rate + ", POWER " + power + ", MARGIN " + margin;
        int gain = margin - 2 * power + 5 * rate;
        due.holds(when + " can be", gain >= 0 && gain <= 60);
        StarSenders x = Due.oneGate(rate, power, gain);
        due.taking(x, 0, 4);
        int asked = rate == rateDue && power == powerDue ? 0 : 1;
        due.senderIs(when, x, 0, rateDue, powerDue, 4, 1, 3, asked == 1 ? 0 : 4);
        due.is(when + ": ANSWERS", x.all(5), asked);
        due.is(when + ": LOST", x.all(6), 0);
    }

    private static void rateUp() {
        due.sentence("as long as M is 5 or more and RATE is below 5: RATE 1 more, M 5 less");
        tunes(0, 0, 10, 0, 0);
        tunes(0, 0, 11, 1, 0);
        tunes(0, 0, 12, 1, 0);
        tunes(0, 0, 15, 1, 0);
        tunes(0, 0, 16, 2, 0);
        tunes(0, 0, 30, 4, 0);
        tunes(0, 0, 31, 5, 0);
        tunes(0, 0, 60, 5, 0);
        tunes(4, 0, 11, 5, 0);
        tunes(4, 0, 40, 5, 0);
        tunes(5, 0, 11, 5, 0);
        tunes(5, 0, 35, 5, 0);
    }

    private static void powerDown() {
        due.sentence("then as long as M is 2 or more and POWER above 0: POWER 1 less, M 2 less");
        tunes(0, 4, 8, 0, 3);
        tunes(0, 1, 8, 0, 0);
        tunes(0, 1, 10, 0, 0);
        tunes(0, 0, 8, 0, 0);
        tunes(0, 3, 7, 0, 3);
        tunes(0, 4, 9, 0, 3);
        tunes(0, 4, 10, 0, 2);
        tunes(0, 4, 12, 1, 4);
        tunes(0, 4, 13, 1, 3);
        tunes(0, 4, 15, 1, 2);
        tunes(5, 4, 13, 5, 1);
        tunes(5, 4, 14, 5, 0);
        tunes(5, 4, 43, 5, 0);
    }

    private static void powerUp() {
        due.sentence("or as long as M is below 0 and POWER below 4: POWER 1 more, M 2 more");
        tunes(0, 3, 6, 0, 3);
        tunes(1, 2, 5, 1, 3);
        tunes(1, 2, 4, 1, 3);
        tunes(1, 2, 3, 1, 4);
        tunes(1, 3, 5, 1, 4);
        tunes(2, 0, 0, 2, 3);
        tunes(2, 1, 0, 2, 4);
        tunes(1, 3, 4, 1, 4);
        tunes(0, 0, 0, 0, 3);
        tunes(0, 0, 5, 0, 1);
    }

    private static void rateDown() {
        due.sentence("still below 0 and RATE above 0: RATE 1 less, M 5 more, as long as so");
        tunes(2, 4, 5, 1, 4);
        tunes(2, 4, 1, 1, 4);
        tunes(2, 4, 0, 0, 4);
        tunes(5, 4, 0, 3, 4);
        tunes(1, 3, 3, 0, 4);
        tunes(5, 2, 0, 4, 4);
        tunes(0, 2, 4, 0, 3);
        // RATE 1 and a MARGIN of 0, at POWER 4, can't be sent: RATE becomes so while the letter is on its way
        StarSenders y = Due.oneGate(2, 4, 2);
        due.taking(y, 0, 3);
        y.sends(0);
        y.sender(0, 0, 1);
        due.is("ticks(4)", y.ticks(4), 1);
        due.senderIs("it ends at RATE 0, still below 0", y, 0, 0, 4, 4, 1, 3, 0);
        // nor can RATE 0 with less than 8
        StarSenders x = Due.oneGate(1, 4, 2);
        due.taking(x, 0, 3);
        x.sends(0);
        x.sender(0, 0, 0);
        due.is("ticks(4)", x.ticks(4), 1);
        due.senderIs("neither slower nor louder", x, 0, 0, 4, 4, 1, 3, 4);
        due.is("none is due", x.all(5) + x.all(6), 0);
    }

    private static void nothingOtherwise() {
        due.sentence("Is nothing otherwise by it, none is due");
        StarSenders x = Due.oneGate(0, 3, 0);
        x.gate(0, 1, 0);
        due.taking(x, 0, 6);
        due.is("neither sent nor LOST", x.all(5) + x.all(6), 0);
        due.marginsAre("they stay", x, 0, 6, 6, 6, 6);
        x.gate(0, 1, 6);
        x.gain(0, 0, 2);
        due.taking(x, 0, 1);
        due.is("the next letter asks", x.all(5), 1);
        due.is("POWER", x.of(0, 1), 2);
        due.marginsAre("all 4 go", x, 0);
    }

    private static void marginsGoAnyway() {
        due.sentence("else all 4 MARGINS go, whether it comes to him or not");
        StarSenders x = Due.oneGate(0, 4, 20);
        due.taking(x, 0, 4);
        due.marginsAre("it comes to him", x, 0);
        due.is("RATE", x.of(0, 0), 4);
        StarSenders y = Due.oneGate(0, 4, 20);
        y.gate(0, 1, 0);
        due.taking(y, 0, 4);
        due.marginsAre("it is LOST", y, 0);
        due.is("RATE", y.of(0, 0), 0);
        due.is("LOST", y.all(6), 1);
        due.taking(y, 0, 3);
        due.is("no other yet", y.all(6), 1);
        due.taking(y, 0, 1);
        due.is("LOST again", y.all(6), 2);
        StarSenders z = Due.oneGate(0, 4, 20);
        due.taking(z, 0, 3);
        z.sends(0);
        z.sender(0, 3, 0);
        due.is("ticks(4)", z.ticks(4), 1);
        due.marginsAre("he is not JOINED", z, 0);
        due.is("RATE", z.of(0, 0), 0);
        due.is("sent", z.all(5), 1);
    }

    private static void costOfEachRate() {
        due.sentence("An ANSWER costs 6 less his RATE");
        for (int rate = 0; rate <= 5; rate++) {
            StarSenders x = new StarSenders();
            x.sets(1, 1);
            x.gain(0, 0, 60);
            x.sender(0, 0, rate);
            x.gate(0, 1, 40);
            x.sends(0);
            due.is("a JOINING", x.ticks(4), 1);
            due.is("at RATE " + rate, x.at(0, 2), 40 - 6 + rate);
            x.sender(0, 0, rate);
            due.taking(x, 0, 4);
            due.is("of RATE and POWER at RATE " + rate, x.at(0, 2), 40 - 2 * (6 - rate));
            due.is("ANSWERS", x.all(5), 2);
        }
    }

    private static void rateAsItIsAhead() {
        due.sentence("6 less his RATE (as it is ahead)");
        StarSenders x = Due.oneGate(0, 4, 20);
        due.taking(x, 0, 4);
        due.is("RATE 4 by it", x.of(0, 0), 4);
        due.is("6 and not 2", x.at(0, 2), 4);
        StarSenders y = Due.oneGate(5, 4, 17);
        y.gate(0, 1, 1);
        due.taking(y, 0, 4);
        due.senderIs("0 less 6 at RATE 5", y, 0, 3, 4);
        due.is("1 and not 3", y.at(0, 2), 0);
        due.is("not LOST", y.all(6), 0);
    }

    private static void asMuchLeft() {
        due.sentence("the first whose BUDGET of these 60 TICKS has as much left sends it");
        for (int rate = 0; rate <= 5; rate++) {
            for (int less = 0; less <= 1; less++) {
                StarSenders x = new StarSenders();
                x.gain(0, 0, 60);
                x.sender(0, 0, rate);
                x.gate(0, 1, 6 - rate - less);
                x.gate(1, 1, 0);
                x.sends(0);
                x.ticks(4);
                due.is("JOINED at RATE " + rate, x.of(0, 3), 1 - less);
                due.is("ANSWERS of it", x.at(0, 1), 1 - less);
                due.is("left", x.at(0, 2), less == 0 ? 0 : 5 - rate);
                due.is("LOST", x.all(6), less);
            }
        }
        // 12 is enough for two, 11 is not; the second is the other GATE's
        for (int budget = 11; budget <= 12; budget++) {
            StarSenders x = new StarSenders();
            x.gate(0, 1, budget);
            x.sends(0);
            x.sends(1);
            x.ticks(4);
            due.is("of " + budget, x.at(0, 1), budget == 12 ? 2 : 1);
            due.is("the other", x.at(1, 1), budget == 12 ? 0 : 1);
            due.is("left of " + budget, x.at(0, 2), budget == 12 ? 0 : 5);
        }
    }

    /** Four gates with these gains; six joinings in turn, each gate can pay one. */
    private static void speakInTurn(int[] gains, int... order) {
        StarSenders x = new StarSenders();
        x.sets(0, 6);
        x.sets(1, 4);
        for (int j = 0; j < 4; j++) {
            x.gate(j, 1, 6);
            for (int i = 0; i < 6; i++) {
                x.gain(i, j, gains[j]);
            }
        }
        for (int i = 0; i < 5; i++) {
            x.sends(i);
            x.ticks(4);
            for (int k = 0; k < 4; k++) {
                due.is("ANSWERS of " + order[k] + " behind " + i, x.at(order[k], 1), k <= i ? 1 : 0);
            }
            due.is("JOINED " + i, x.of(i, 3), i < 4 ? 1 : 0);
        }
        due.is("LOST", x.all(6), 1);
    }

    private static void byMarginsFalling() {
        due.sentence("of GATES that heard the letter (copies in its WINDOW), by MARGINS falling");
        speakInTurn(new int[] {10, 30, 20, 40}, 3, 1, 2, 0);
        speakInTurn(new int[] {40, 30, 20, 10}, 0, 1, 2, 3);
        speakInTurn(new int[] {0, 1, 2, 3}, 3, 2, 1, 0);
    }

    private static void ofLikeOnesByGates() {
        due.sentence("of like ones by GATES");
        speakInTurn(new int[] {20, 20, 20, 20}, 0, 1, 2, 3);
        speakInTurn(new int[] {10, 20, 10, 20}, 1, 3, 0, 2);
        speakInTurn(new int[] {0, 0, 60, 60}, 2, 3, 0, 1);
    }

    private static void gatesThatHeard() {
        due.sentence("of GATES that heard the letter (copies in its WINDOW)");
        StarSenders x = new StarSenders();
        x.sender(0, 0, 3);
        x.gain(0, 1, 6);
        x.gate(0, 1, 2);
        x.gate(1, 1, 40);
        due.is("GATE 1 does not hear it", x.sends(0), 1);
        x.ticks(4);
        due.is("LOST", x.all(6), 1);
        due.is("GATE 1 is not asked", x.at(1, 2), 40);
        x.gain(0, 1, 7);
        due.is("GATE 1 hears it at 0", x.sends(0), 2);
        x.ticks(4);
        due.is("it answers", x.at(1, 1), 1);
        // a copy that is still on its way, as the WINDOW closes, is none of the WINDOW
        StarSenders y = new StarSenders();
        y.gate(0, 1, 0);
        y.gate(1, 0, 4);
        y.sends(0);
        y.ticks(4);
        due.is("LOST", y.all(6), 1);
        due.is("not JOINED", y.of(0, 3), 0);
        StarSenders z = new StarSenders();
        z.gate(0, 1, 0);
        z.gate(1, 0, 3);
        z.sends(0);
        z.ticks(4);
        due.is("it comes as the WINDOW closes", z.at(1, 1), 1);
        due.is("JOINED", z.of(0, 3), 1);
    }

    private static void greaterOfTwoDecides() {
        due.sentence("of a GATE that sent on two the greater MARGIN counts .. by MARGINS falling");
        StarSenders x = new StarSenders();
        x.gain(0, 0, 30);
        x.gain(0, 1, 10);
        x.sends(0);
        x.gain(0, 0, 0);
        x.gain(0, 1, 29);
        x.again(0);
        x.ticks(4);
        due.is("30 at 0 is ahead of 29 at 1", x.at(0, 1), 1);
        StarSenders y = new StarSenders();
        y.gain(0, 0, 30);
        y.gain(0, 1, 10);
        y.sends(0);
        y.gain(0, 1, 31);
        y.again(0);
        y.ticks(4);
        due.is("31 at 1 is ahead of 30 at 0", y.at(1, 1), 1);
    }

    private static void atOnce() {
        due.sentence("the SENDER has it at once");
        StarSenders x = Due.oneGate(0, 4, 60);
        x.gate(0, 1, 40);
        for (int k = 0; k < 5; k++) {
            x.sends(0);
        }
        due.is("all five are taken at one TICK", x.ticks(4), 5);
        due.senderIs("by the fourth", x, 0, 5, 0, 5, 1, 4, 1, 5, 0);
        due.marginsAre("the fifth", x, 0, 68);
        for (int k = 0; k < 3; k++) {
            x.sends(0);
        }
        due.is("three more", x.ticks(4), 3);
        due.is("cost was by the RATE of the first four, then none is due", x.at(0, 2), 34);
        // at one TICK the first four change RATE, the next four pay by it
        StarSenders y = Due.oneGate(0, 4, 20);
        y.gate(0, 1, 40);
        for (int k = 0; k < 8; k++) {
            y.sends(0);
        }
        due.is("eight", y.ticks(4), 8);
        due.is("6, then 2", y.at(0, 2), 40 - 6 - 2);
        due.senderIs("28 less 6 from RATE 4 and POWER 3", y, 0, 5, 0, 8, 1, 7, 0);
    }

    private static void notJoinedThen() {
        due.sentence("(but one of RATE and POWER does nothing, if he is not JOINED then)");
        StarSenders x = Due.oneGate(1, 2, 20);
        due.taking(x, 0, 3);
        x.sends(0);
        x.ticks(3);
        x.sender(0, 3, 0);
        due.is("taken", x.ticks(1), 1);
        due.senderIs("nothing", x, 0, 1, 2, 4, 0, 3, 0, 4, 0);
        due.gateIs("but it is sent and paid", x, 0, 4, 1, 5, 4);
        // he is JOINED again in time
        StarSenders y = Due.oneGate(1, 2, 20);
        due.taking(y, 0, 3);
        y.sends(0);
        y.sender(0, 3, 0);
        y.ticks(3);
        y.sender(0, 3, 1);
        due.is("taken", y.ticks(1), 1);
        due.senderIs("13 more", y, 0, 3, 1, 4, 1, 3, 0, 4, 0);
    }

    private static void joiningIsNotHeldBack() {
        due.sentence("an ANSWER is due that makes him JOINED .. (but one of RATE and POWER does nothing, if he is not JOINED then)");
        StarSenders x = new StarSenders();
        x.sends(0);
        due.is("not JOINED ahead", x.of(0, 3), 0);
        x.ticks(4);
        due.is("JOINED by it", x.of(0, 3), 1);
    }

    private static void noneHas() {
        due.sentence("Has none: it is LOST");
        StarSenders x = new StarSenders();
        x.gate(0, 1, 0);
        x.gate(1, 1, 0);
        x.sender(0, 0, 5);
        x.gain(0, 0, 60);
        x.gain(0, 1, 60);
        x.sends(0);
        due.is("taken", x.ticks(4), 1);
        due.is("a cost of 1, a BUDGET of 0", x.all(6), 1);
        due.is("ANSWERS", x.all(5), 0);
        due.is("of GATE 0", x.at(0, 1) + x.at(1, 1), 0);
        due.is("not JOINED", x.of(0, 3), 0);
    }

    /** Windows of 1 tick: what is sent at t is taken at t and 2. */
    private static void sixtyTicks() {
        due.sentence("for each 60 TICKS (those from 1 on, from 61 on, ..)");
        StarSenders x = new StarSenders();
        x.sets(2, 1);
        x.sets(1, 1);
        x.gate(0, 1, 6);
        x.sends(0);
        x.ticks(2);
        due.is("answered at 2", x.at(0, 2), 0);
        x.ticks(56);
        x.sends(1);
        x.ticks(1);
        x.sends(2);
        due.is("taken at 60", x.ticks(1), 1);
        due.is("the same 60", x.of(1, 3), 0);
        due.is("LOST", x.all(6), 1);
        due.is("left at 60", x.at(0, 2), 0);
        due.is("taken at 61", x.ticks(1), 1);
        due.is("the next 60", x.of(2, 3), 1);
        due.is("LOST", x.all(6), 1);
        due.is("left at 61", x.at(0, 2), 0);
        x.ticks(57);
        x.renews(0);
        x.sends(0);
        x.ticks(1);
        x.sends(1);
        due.is("taken at 120 and at 121", x.ticks(1) + x.ticks(1), 2);
        due.is("LOST at 120", x.of(0, 3), 0);
        due.is("answered at 121", x.of(1, 3), 1);
        due.is("LOST", x.all(6), 2);
        // what was not spent is not kept
        StarSenders y = new StarSenders();
        due.is("at 0", y.at(0, 2), 10);
        y.ticks(99);
        y.ticks(99);
        due.is("at 198", y.at(0, 2), 10);
    }

    private static void budgetBelowNought() {
        due.sentence("BUDGET less what it spent of it in these 60 TICKS (2; below 0, where BUDGET became less than that)");
        StarSenders x = new StarSenders();
        x.sends(0);
        x.ticks(4);
        due.is("10 less 6", x.at(0, 2), 4);
        due.is("gate(0, 1, 6)", x.gate(0, 1, 6), 10);
        due.is("just all of it", x.at(0, 2), 0);
        x.gate(0, 1, 5);
        due.is("below 0", x.at(0, 2), -1);
        x.gate(0, 1, 0);
        due.is("the least by this", x.at(0, 2), -6);
        x.sends(1);
        x.ticks(4);
        due.is("it does not answer", x.at(0, 1), 1);
        due.is("the other one does", x.at(1, 1), 1);
        x.gate(0, 1, 40);
        due.is("spent is what it was", x.at(0, 2), 34);
        x.gate(0, 1, 1);
        x.ticks(52);
        due.is("at 60", x.at(0, 2), -5);
        x.ticks(1);
        due.is("at 61", x.at(0, 2), 1);
    }
}
