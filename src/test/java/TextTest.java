/** Promises 18 to 22: type, clear, does, told, digest. */
public final class TextTest {
    private static final Due due = new Due();

    public static void main(String[] args) {
        types();
        clears();
        faultOfTheFirstByte();
        faultsOfSendersAndGates();
        faultsOfNumbers();
        faultsOfTooShortTexts();
        everyFirstByte();
        faultDoesNothing();
        ordersAreDone();
        ordersOfTheSender();
        numbersAtTheirEdges();
        ordersPassedOver();
        longTexts();
        told();
        digests();
        due.end();
    }

    private static void types() {
        StarSenders x = new StarSenders();
        due.is("type(0)", x.type(0), 1);
        due.is("type(127)", x.type(127), 2);
        due.is("type(-1)", x.type(-1), -2);
        due.is("type(128)", x.type(128), -2);
        for (int k = 3; k <= 120; k++) {
            due.is("type", x.type('s'), k);
        }
        due.is("type at 120", x.type('s'), -4);
        due.is("BAD is ahead of FULL", x.type(128), -2);
        due.refusedAre("type refused", x, 3, 0, 1);
        due.is("told(3)", x.told(3), 120);
    }

    private static void clears() {
        StarSenders x = new StarSenders();
        due.is("clear()", x.clear(), 0);
        Due.types(x, "s0;");
        due.is("clear()", x.clear(), 3);
        due.is("clear()", x.clear(), 0);
        due.is("told(3)", x.told(3), 0);
        due.is("does()", x.does(), -10);
    }

    private static void faults(StarSenders x, String text, int fault) {
        due.doing(x, text, -10 - fault);
    }

    private static void faultOfTheFirstByte() {
        StarSenders x = new StarSenders();
        faults(x, "x0;", 0);
        faults(x, "  S0;", 2);
        faults(x, "s0;;", 3);
        faults(x, ";", 0);
        faults(x, "0", 0);
        faults(x, "s0; s1; q", 8);
        faults(x, "s0;s1", 5);
        faults(x, "s0 s1;", 3);
        faults(x, "s0\t;", 2);
        faults(x, "s0;\n", 3);
        faults(x, "s00;", 2);
        faults(x, "s 0 0;", 4);
        faults(x, "s;", 1);
        faults(x, "sa;", 1);
    }

    private static void faultsOfSendersAndGates() {
        StarSenders x = new StarSenders();
        faults(x, "s3;", 1);
        faults(x, "s  9;", 3);
        faults(x, "z3;", 1);
        faults(x, "r3;", 1);
        faults(x, "g3 0 1;", 1);
        faults(x, "g 0 2 1;", 4);
        faults(x, "b 2 1;", 2);
        faults(x, "l 2 1;", 2);
        faults(x, "s3", 1);
        faults(x, "s-1;", 1);
        x.sets(0, 6);
        x.sets(1, 4);
        due.doing(x, "s5;z5;r5;g5 3 1;b3 1;l3 1;", 0);
        faults(x, "s6;", 1);
        faults(x, "l4 1;", 1);
        x.sets(0, 1);
        x.sets(1, 1);
        faults(x, "s1;", 1);
        faults(x, "b1 1;", 1);
    }

    private static void faultsOfNumbers() {
        StarSenders x = new StarSenders();
        faults(x, "g 0 0 61;", 6);
        faults(x, "g00 99;", 4);
        faults(x, "g00061;", 3);
        faults(x, "b 0 41;", 4);
        faults(x, "l 0 6;", 4);
        faults(x, "l 0 06;", 4);
        faults(x, "l 0 005;", 4);
        faults(x, "+100;", 1);
        faults(x, "+ 000;", 2);
        faults(x, "+ 1 2;", 4);
        faults(x, "+ 12 3;", 5);
        faults(x, "+;", 1);
        faults(x, "+ ;", 2);
        faults(x, "+-1;", 1);
        faults(x, "+1a;", 2);
        faults(x, "+99999999999999999999;", 1);
        faults(x, "l 0 6", 4);
        faults(x, "+100", 1);
        faults(x, "l06 7;", 2);
        faults(x, "l05 7;", 4);
    }

    private static void faultsOfTooShortTexts() {
        StarSenders x = new StarSenders();
        String[] texts = {"", " ", "   ", "s", "s ", "s0", "s0 ", "s0;s", "+", "+9", "+99", "+9 ", "g", "g0", "g00",
            "g006", "g0060", "b", "b1", "b14", "l", "l0", "l05", "z", "r", "z0", "r0", "+ 1; "};
        for (int k = 0; k < texts.length - 1; k++) {
            faults(x, texts[k], texts[k].length());
        }
        due.doing(x, texts[texts.length - 1], 0);
    }

    private static void everyFirstByte() {
        for (int c = 0; c <= 127; c++) {
            StarSenders x = new StarSenders();
            x.type(c);
            boolean mayStand = c == ' ' || c == 's' || c == '+' || c == 'g' || c == 'b' || c == 'l' || c == 'z' || c == 'r';
            due.is("does() of byte " + c, x.does(), mayStand ? -11 : -10);
        }
    }

    private static void faultDoesNothing() {
        StarSenders x = new StarSenders();
        faults(x, "s0; +9; g0 0 1; b0 1; l0 1; z0; s3;", 33);
        due.allIs("FAULT", x, 0, 0, 0, 0, 0, 0, 0, 0, 0);
        due.refusedAre("FAULT", x, 0, 0, 0);
        due.is("GAIN", x.hears(0, 0), 28);
        due.is("BUDGET", x.at(0, 2), 10);
        due.is("LAG", x.gate(0, 0, 0), 0);
        due.is("again(0)", x.again(0), -3);
        due.is("THE TEXT stays", x.told(3), 35);
    }

    private static void ordersAreDone() {
        StarSenders x = new StarSenders();
        due.doing(x, " s 0 ; + 4 ;s1;+4;", 2);
        due.is("THE TEXT stays", x.told(3), 18);
        due.allIs("done", x, 0, 0, 0, 2, 0, 2, 0, 2, 8);
        due.is("done again", x.does(), 2);
        due.allIs("letters", x, 0, 0, 2, 2, 0, 2, 0, 4, 16);
        due.doing(x, "g0 1 7;b1 33;l0 4;", 0);
        due.is("GAIN", x.gain(0, 1, 0), 7);
        due.is("BUDGET", x.gate(1, 1, 0), 33);
        due.is("LAG", x.gate(0, 0, 0), 4);
        due.is("GAIN of another", x.gain(1, 0, 0), 20);
        due.doing(x, "+0;", 0);
        due.is("TICKS", x.all(8), 16);
        due.doing(x, "+07;+1;", 0);
        due.is("TICKS", x.all(8), 24);
        due.doing(x, "+99;+99;", 0);
        due.is("TICKS", x.all(8), 222);
        due.refusedAre("none refused", x, 0, 0, 0);
    }

    private static void ordersOfTheSender() {
        StarSenders x = Due.joined(0);
        due.doing(x, "s0;+4;s0;z0;", 1);
        due.senderIs("z", x, 0, 0, 4, 0, 0, 0, 1, 1, 0);
        due.is("nothing sent", x.again(0), -3);
        due.is("on their way", x.all(0), 2);
        StarSenders y = Due.joined(1);
        y.sends(1);
        y.sender(1, 0, 5);
        due.doing(y, "r1;g11 60;r1;", 0);
        due.is("heard by RATE of now", y.all(0), 2 + 2 + 2);
        y.gain(1, 0, 0);
        due.doing(y, "r1;", 0);
        due.is("heard by RATE of now", y.all(0), 7);
        due.is("COUNTER", y.of(1, 2), 1);
        y.ticks(4);
        due.is("one letter", y.all(2), 1);
        due.marginsAre("the greatest", y, 1, 43);
    }

    private static void numbersAtTheirEdges() {
        StarSenders x = new StarSenders();
        due.doing(x, "g00 60;b0 40;l0 5;", 0);
        due.is("GAIN", x.gain(0, 0, 1), 60);
        due.is("BUDGET", x.gate(0, 1, 1), 40);
        due.is("LAG", x.gate(0, 0, 1), 5);
        due.doing(x, "g000;b00;l000;", 0);
        due.is("GAIN", x.gain(0, 0, 1), 0);
        due.is("BUDGET", x.gate(0, 1, 1), 0);
        due.is("LAG", x.gate(0, 0, 1), 0);
    }

    private static void ordersPassedOver() {
        StarSenders x = Due.joined(0);
        due.doing(x, "r1; r0; +1;", 0);
        due.is("TICKS", x.all(8), 1);
        StringBuilder text = new StringBuilder();
        for (int k = 0; k < 31; k++) {
            text.append("s0;");
        }
        due.doing(x, text + "r0;+1;s1;", 0);
        due.is("29 were sent", x.of(0, 2), 29);
        due.is("at(0, 0)", x.at(0, 0), 29 + 1);
        due.is("behind it one is sent", x.all(0), 2);
        due.refusedAre("passed over, not refused", x, 0, 0, 0);
    }

    private static void longTexts() {
        StarSenders x = new StarSenders();
        x.sets(1, 1);
        x.sender(0, 3, 1);
        StringBuilder text = new StringBuilder();
        for (int k = 0; k < 40; k++) {
            text.append("s0;");
        }
        due.doing(x, text.toString(), 0);
        due.is("40 orders", x.all(0), 40);
        due.is("120 bytes", x.told(3), 120);
        StringBuilder blanks = new StringBuilder();
        for (int k = 0; k < 117; k++) {
            blanks.append(' ');
        }
        due.doing(x, blanks + "+4;", 32);
        due.doing(x, "+4;" + blanks, 0);
        StarSenders y = new StarSenders();
        faults(y, blanks + "s00", 119);
        faults(y, blanks + "   ", 120);
    }

    private static void told() {
        StarSenders x = new StarSenders();
        due.is("told(-1)", x.told(-1), -2);
        due.is("told(7)", x.told(7), -2);
        due.is("told(0)", x.told(0), 2);
        x.again(0);
        due.refusedAre("one NO", x, 2, 1, 0);
        x.sets(0, 5);
        x.sets(1, 4);
        x.sets(2, 8);
        due.is("told(4)", x.told(4), 5);
        due.is("told(5)", x.told(5), 4);
        due.is("told(6)", x.told(6), 8);
    }

    private static long digestAsTold(StarSenders x) {
        long h = 2131;
        for (int what = 0; what <= 6; what++) {
            h = 31 * h + x.told(what);
        }
        int n = x.told(4);
        int g = x.told(5);
        for (int k = 0; k < n * 8; k++) {
            h = 31 * h + x.of(k / 8, k % 8);
        }
        for (int k = 0; k < g * 4; k++) {
            h = 31 * h + x.at(k / 4, k % 4);
        }
        for (int what = 0; what <= 8; what++) {
            h = 31 * h + x.all(what);
        }
        return h;
    }

    private static void digests() {
        StarSenders x = new StarSenders();
        due.is("digest of a new one", x.digest(), digestAsTold(x));
        x.sets(0, 6);
        x.sets(1, 4);
        x.draw(5);
        x.gate(0, 1, 3);
        x.again(0);
        x.all(-1);
        due.doing(x, "s0;s1;+5;s0;s1;+2;s2;s5;r5;z0;+3;s3;", 4);
        due.is("digest", x.digest(), digestAsTold(x));
        x.gate(0, 1, 0);
        due.is("digest", x.digest(), digestAsTold(x));
        due.is("it changes nothing", x.digest(), x.digest());
        due.refusedAre("it is not refused", x, 1, 1, 0);
    }
}
