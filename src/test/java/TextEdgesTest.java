/** The edges of THE TEXT and of type, clear and does, a sentence each. */
public final class TextEdgesTest {
    private static final Due due = new Due();
    private static final String[] ORDERS = {"s0;", "+5;", "g005;", "b05;", "l05;", "z0;", "r0;"};

    public static void main(String[] args) {
        atMostOneHundredAndTwenty();
        bytesAtTheirEdges();
        clearsAnEmptyAndAFullOne();
        endedBySemicolons();
        ticksOfAnOrder();
        numbersOfOrders();
        oneFigureEach();
        oneOrTwoFigures();
        blanksAnywhere();
        blanksNotInANumber();
        noSender();
        noGate();
        beyondItsBounds();
        threeFiguresOrMore();
        everyByteBehindEachPrefix();
        endsTooEarly();
        emptyOnes();
        firstFaultCounts();
        nothingIsDone();
        nothingCounts();
        tenLessTheFault();
        passedOver();
        doneInTheirOrder();
        takenByOrders();
        doneTwice();
        due.end();
    }

    private static void faultAt(StarSenders x, String text, int fault) {
        due.doing(x, text, -10 - fault);
    }

    private static void fine(StarSenders x, String text) {
        Due.types(x, text);
        due.holds("'" + text + "' has no FAULT", x.does() >= 0);
    }

    private static void atMostOneHundredAndTwenty() {
        due.sentence("THE TEXT (120 bytes at most)");
        StarSenders x = new StarSenders();
        x.sets(1, 1);
        String forty = "s0;".repeat(40);
        fine(x, forty);
        due.is("bytes", x.told(3), 120);
        due.is("the last order is done", x.all(0), 40);
        due.is("one more", x.type('s'), -4);
        due.is("bytes", x.told(3), 120);
        StarSenders y = new StarSenders();
        fine(y, forty.substring(0, 117));
        due.is("bytes", y.told(3), 117);
        due.is("39 orders, 58 copies at the most", y.all(0), 58);
    }

    private static void bytesAtTheirEdges() {
        due.sentence("A byte (0 .. 127) comes behind THE TEXT: how many it has");
        StarSenders x = new StarSenders();
        due.is("type(0)", x.type(0), 1);
        due.is("0 can't stand there", x.does(), -10);
        due.is("type(-1)", x.type(-1), -2);
        due.is("type(128)", x.type(128), -2);
        due.is("type(127)", x.type(127), 2);
        x.clear();
        due.is("type(127)", x.type(127), 1);
        due.is("127 can't stand there", x.does(), -10);
        StarSenders y = new StarSenders();
        for (int k = 1; k <= 119; k++) {
            y.type(' ');
        }
        due.is("the last that finds room", y.type(' '), 120);
        due.is("none more", y.type(' '), -4);
    }

    private static void clearsAnEmptyAndAFullOne() {
        due.sentence("THE TEXT is empty: how many it had");
        StarSenders x = new StarSenders();
        due.is("an empty one", x.clear(), 0);
        x.type('s');
        due.is("one", x.clear(), 1);
        due.is("it is empty", x.told(3), 0);
        for (int k = 0; k < 125; k++) {
            x.type(' ');
        }
        due.is("a full one", x.clear(), 120);
        due.is("an empty one", x.clear(), 0);
        due.is("room again", x.type('+'), 1);
        x.type('3');
        x.type(';');
        due.is("nothing of the old one is left", x.does(), 0);
        due.is("TICKS", x.all(8), 3);
    }

    private static void endedBySemicolons() {
        due.sentence("ORDERS, each ended by ;");
        StarSenders x = new StarSenders();
        for (String order : ORDERS) {
            String open = order.substring(0, order.length() - 1);
            fine(x, order);
            fine(x, order + order);
            faultAt(x, open, open.length());
            faultAt(x, order + open, order.length() + open.length());
            faultAt(x, open + order, open.length());
            faultAt(x, open + ",", open.length());
            faultAt(x, order + ";", order.length());
            faultAt(x, ";" + order, 0);
        }
    }

    private static void ticksOfAnOrder() {
        due.sentence("+ k (TICKS, 0 .. 99)");
        StarSenders x = new StarSenders();
        fine(x, "+0;");
        due.is("none", x.all(8), 0);
        fine(x, "+00;");
        due.is("none", x.all(8), 0);
        fine(x, "+1;");
        due.is("one", x.all(8), 1);
        fine(x, "+99;");
        due.is("99", x.all(8), 100);
        faultAt(x, "+100;", 1);
        due.is("as before", x.all(8), 100);
        due.refusedAre("0 is none that is refused", x, 0, 0, 0);
    }

    private static void numbersOfOrders() {
        due.sentence("g i j k (GAIN), b j k (BUDGET), l j k (LAG)");
        StarSenders x = new StarSenders();
        fine(x, "g2160;b140;l15;");
        due.is("GAIN 60", x.gain(2, 1, 9), 60);
        due.is("BUDGET 40", x.gate(1, 1, 9), 40);
        due.is("LAG 5", x.gate(1, 0, 2), 5);
        fine(x, "g210;b10;l10;");
        due.is("GAIN 0", x.gain(2, 1, 9), 0);
        due.is("BUDGET 0", x.gate(1, 1, 9), 0);
        due.is("LAG 0", x.gate(1, 0, 2), 0);
        due.is("GAIN of 1 at 0", x.gain(1, 0, 20), 20);
        due.is("GAIN of 1 at 1", x.gain(1, 1, 20), 20);
        due.is("GAIN of 2 at 0", x.gain(2, 0, 20), 20);
        due.is("BUDGET of 0", x.gate(0, 1, 10), 10);
        due.is("LAG of 0", x.gate(0, 0, 0), 0);
    }

    private static void oneFigureEach() {
        due.sentence("i and j are one figure each");
        StarSenders x = new StarSenders();
        for (String kind : new String[] {"s", "z", "r"}) {
            fine(x, kind + "2;");
            faultAt(x, kind + "00;", 2);
            faultAt(x, kind + "02;", 2);
            faultAt(x, kind + "0 2;", 3);
        }
        fine(x, "g005;");
        due.is("i, j and k", x.gain(0, 0, 20), 5);
        fine(x, "g0105;");
        due.is("i, j and k", x.gain(0, 1, 20), 5);
        faultAt(x, "g0;", 2);
        faultAt(x, "g00;", 3);
        faultAt(x, "b0;", 2);
        faultAt(x, "l0;", 2);
    }

    private static void oneOrTwoFigures() {
        due.sentence("k is 1 or 2 figures");
        String[] kinds = {"+", "g00", "b0", "l0"};
        for (String kind : kinds) {
            StarSenders x = new StarSenders();
            int at = kind.length();
            fine(x, kind + "4;");
            fine(x, kind + "04;");
            fine(x, kind + "00;");
            faultAt(x, kind + ";", at);
            faultAt(x, kind + "004;", at);
            faultAt(x, kind + "x;", at);
            faultAt(x, kind + "4x;", at + 1);
            faultAt(x, kind + "04x;", at + 2);
            faultAt(x, kind + "-4;", at);
            faultAt(x, kind + "+4;", at);
        }
    }

    private static void blanksAnywhere() {
        due.sentence("blanks (32) may stand anywhere but in a k");
        for (String order : ORDERS) {
            StarSenders x = new StarSenders();
            for (int k = 0; k <= order.length(); k++) {
                fine(x, order.substring(0, k) + " " + order.substring(k));
                fine(x, order.substring(0, k) + "     " + order.substring(k));
            }
            fine(x, "  " + order + "  " + order + "  ");
            fine(x, String.join("  ", order.split("")) + " ");
        }
        StarSenders x = new StarSenders();
        fine(x, " ".repeat(117) + "s0;");
        fine(x, "s0;" + " ".repeat(117));
        fine(x, "s" + " ".repeat(59) + "0" + " ".repeat(58) + ";");
        for (int c : new int[] {9, 10, 13, 0, 31, 33}) {
            faultAt(x, "s0" + (char) c + ";", 2);
            faultAt(x, (char) c + "s0;", 0);
            faultAt(x, "s0;" + (char) c, 3);
        }
    }

    private static void blanksNotInANumber() {
        due.sentence("blanks (32) may stand anywhere but in a k");
        StarSenders x = new StarSenders();
        faultAt(x, "+1 2;", 3);
        faultAt(x, "+ 1  2;", 5);
        faultAt(x, "g 0 0 1 2;", 8);
        faultAt(x, "b 0 1 2;", 6);
        faultAt(x, "l 0 0 5;", 6);
        faultAt(x, "l005 ;".replace("005", "0 0 5"), 5);
        fine(x, "l 0 05 ;");
        faultAt(x, "+12 3;", 4);
    }

    private static void noSender() {
        due.sentence("an i that is no SENDER .. : that figure");
        for (int n = 1; n <= 6; n++) {
            StarSenders x = new StarSenders();
            x.sets(0, n);
            for (String kind : new String[] {"s", "z", "r"}) {
                fine(x, kind + (n - 1) + ";");
                faultAt(x, kind + n + ";", 1);
                faultAt(x, kind + "  9;", 3);
                faultAt(x, "+1;" + kind + n, 4);
            }
            fine(x, "g" + (n - 1) + "05;");
            faultAt(x, "g" + n + "05;", 1);
            faultAt(x, "g " + n + "95;", 2);
        }
    }

    private static void noGate() {
        due.sentence("a j that is no GATE: that figure");
        for (int g = 1; g <= 4; g++) {
            StarSenders x = new StarSenders();
            x.sets(1, g);
            for (String kind : new String[] {"b", "l", "g2"}) {
                int at = kind.length();
                fine(x, kind + (g - 1) + "5;");
                faultAt(x, kind + g + "5;", at);
                faultAt(x, kind + " " + g + " 5;", at + 1);
                faultAt(x, kind + "99;", at);
                faultAt(x, kind + g, at);
            }
        }
    }

    private static void beyondItsBounds() {
        due.sentence("a k beyond its bounds .. : its first byte");
        int[] most = {60, 40, 5, 99};
        String[] kinds = {"g00", "b0", "l0", "+"};
        for (int k = 0; k < 4; k++) {
            for (int v = 0; v <= 99; v++) {
                StarSenders x = new StarSenders();
                due.doing(x, kinds[k] + v + ";", v <= most[k] ? 0 : -10 - kinds[k].length());
            }
        }
        StarSenders y = new StarSenders();
        faultAt(y, "l006;", 2);
        faultAt(y, "l   0   6   ;", 8);
        faultAt(y, "g  0  0  61  ;", 9);
        faultAt(y, "b  0  41", 6);
        faultAt(y, "l06", 2);
        faultAt(y, "l06x", 2);
        faultAt(y, "l0 6 5;", 3);
    }

    private static void threeFiguresOrMore() {
        due.sentence("a k .. of three figures or more: its first byte");
        for (String kind : new String[] {"+", "g00", "b0", "l0"}) {
            StarSenders x = new StarSenders();
            int at = kind.length();
            faultAt(x, kind + "000;", at);
            faultAt(x, kind + "001;", at);
            faultAt(x, kind + "100;", at);
            faultAt(x, kind + " 123;", at + 1);
            faultAt(x, kind + "0000;", at);
            faultAt(x, kind + "9999999999999999999999;", at);
            faultAt(x, kind + "000", at);
            faultAt(x, kind + "000x", at);
        }
        StarSenders y = new StarSenders();
        faultAt(y, "+" + "1".repeat(119), 1);
        faultAt(y, "+" + "0".repeat(119), 1);
    }

    /** Behind each beginning of an order: which of the 128 bytes may stand there. */
    private static void everyByteBehindEachPrefix() {
        due.sentence("FAULT: the place of the first byte that can not stand there");
        String kinds = "s+gblzr";
        bytesThatMayStand("", " " + kinds);
        bytesThatMayStand("  ", " " + kinds);
        bytesThatMayStand("s0;", " " + kinds);
        for (char kind : "szr".toCharArray()) {
            bytesThatMayStand("" + kind, " 012");
            bytesThatMayStand(kind + " ", " 012");
            bytesThatMayStand(kind + "0", " ;");
            bytesThatMayStand(kind + "0 ", " ;");
        }
        bytesThatMayStand("+", " 0123456789");
        bytesThatMayStand("+4", " ;0123456789");
        bytesThatMayStand("+04", " ;");
        bytesThatMayStand("+4 ", " ;");
        bytesThatMayStand("g", " 012");
        bytesThatMayStand("g2", " 01");
        bytesThatMayStand("g21", " 0123456789");
        bytesThatMayStand("g215", " ;0123456789");
        bytesThatMayStand("g210 ", " ;");
        for (char kind : "bl".toCharArray()) {
            bytesThatMayStand("" + kind, " 01");
            bytesThatMayStand(kind + "1", kind == 'b' ? " 0123456789" : " 012345");
            bytesThatMayStand(kind + "10", kind == 'b' ? " ;0123456789" : " ;012345");
            bytesThatMayStand(kind + "1 05", " ;");
            bytesThatMayStand(kind + "1 5 ", " ;");
        }
    }

    private static void bytesThatMayStand(String prefix, String may) {
        int place = prefix.length();
        boolean inNumber = place > 0 && prefix.matches("(.*;)?(\\+ *|[bl] *[01] *|g *[012] *[01] *)[0-9]+");
        int first = place;
        while (inNumber && first > 0 && prefix.substring(first - 1).matches("[0-9]+")
            && !prefix.substring(0, first).matches("(.*;)?(\\+ *|[bl] *[01] *|g *[012] *[01] *)")) {
            first--;
        }
        for (int c = 0; c <= 127; c++) {
            StarSenders x = new StarSenders();
            Due.types(x, prefix);
            x.type(c);
            boolean figure = c >= '0' && c <= '9';
            String when = "'" + prefix + "' and byte " + c;
            int got = x.does();
            if (may.indexOf(c) < 0) {
                due.is(when, got, -10 - (inNumber && figure ? first : place));
            } else if (c != ';' && !(c == ' ' && prefix.endsWith(";"))) {
                due.is(when + ": it ends too early", got, -10 - place - 1);
            } else {
                due.is(when + ": it is done", got, 0);
            }
        }
    }

    private static void endsTooEarly() {
        due.sentence("the TEXT's length, if it ends too early");
        for (String order : ORDERS) {
            StarSenders x = new StarSenders();
            for (int size = 1; size < order.length(); size++) {
                String begun = order.substring(0, size);
                faultAt(x, begun, size);
                faultAt(x, begun + "   ", size + 3);
                faultAt(x, "s1;" + begun, 3 + size);
            }
        }
        faultAt(new StarSenders(), "s0;".repeat(39) + "+99", 120);
        faultAt(new StarSenders(), "s0;".repeat(39) + "  s", 120);
    }

    private static void emptyOnes() {
        due.sentence("the TEXT's length, if it ends too early (an empty one, too)");
        StarSenders x = new StarSenders();
        due.is("an empty one", x.does(), -10);
        for (int size = 1; size <= 120; size++) {
            x.type(' ');
            if (size < 4 || size > 117) {
                due.is(size + " blanks", x.does(), -10 - size);
            }
        }
        x.clear();
        due.is("empty again", x.does(), -10);
    }

    private static void firstFaultCounts() {
        due.sentence("FAULT: the place of the first byte that can not stand there");
        StarSenders x = new StarSenders();
        faultAt(x, "s3;s4;x", 1);
        faultAt(x, "s0;x;s3;", 3);
        faultAt(x, "s0;+100;s3", 4);
        faultAt(x, "g3261;", 1);
        faultAt(x, "g0261;", 2);
        faultAt(x, "g0161;", 3);
        faultAt(x, "s0;s0;s0;+1 1;", 12);
    }

    private static void nothingIsDone() {
        due.sentence("If there is one, nothing is done");
        StarSenders x = Due.joined(0);
        x.sends(0);
        x.sends(1);
        long was = x.digest();
        String orders = "s0;r1;+9;g0 0 1;b0 1;l0 1;z1;";
        int size = orders.length();
        Due.types(x, orders);
        x.type('x');
        due.is("does()", x.does(), -10 - size);
        due.is("clear()", x.clear(), size + 1);
        due.is("nothing is changed", x.digest(), was);
        due.is("GAIN", x.gain(0, 0, 20), 20);
        due.is("BUDGET", x.gate(0, 1, 10), 10);
        due.is("LAG", x.gate(0, 0, 0), 0);
        due.is("sent by 1 still", x.again(1), 2);
        faultAt(x, orders.substring(0, size - 1), size - 1);
        due.is("TICK", x.all(8), 0);
        due.is("on their way", x.all(0), 6);
    }

    private static void nothingCounts() {
        due.sentence("By a FAULT nothing counts");
        StarSenders x = new StarSenders();
        for (String text : new String[] {"", "x", "s3;", "b2 1;", "b0 41;", "+100;", "r0;r1;x", "s0"}) {
            Due.types(x, text);
            due.holds("a FAULT in '" + text + "'", x.does() <= -10);
            due.refusedAre("'" + text + "'", x, 0, 0, 0);
        }
    }

    private static void tenLessTheFault() {
        due.sentence("-10 less the FAULT");
        StarSenders x = new StarSenders();
        due.is("the least place", x.does(), -10);
        faultAt(x, "x", 0);
        for (int place : new int[] {1, 2, 60, 118, 119}) {
            faultAt(x, " ".repeat(place) + "x", place);
        }
        faultAt(x, " ".repeat(119) + "s", 120);
    }

    private static void passedOver() {
        due.sentence("those that can not be (as by their calls) passed over");
        StarSenders x = new StarSenders();
        due.doing(x, "r0;r1;r2;s0;r0;+4;r1;s1;+4;", 2);
        due.allIs("r0 behind s0 alone is done", x, 0, 0, 0, 2, 0, 2, 0, 4, 8);
        StarSenders y = Due.joined(0);
        due.doing(y, "s0;".repeat(28), 0);
        due.is("56 are on their way", y.all(0), 56);
        due.doing(y, "r0;s0;r0;s1;z1;g005;", 0);
        due.is("58", y.all(0), 58);
        due.is("COUNTER: s0 was passed over", y.of(0, 2), 28);
        due.is("s1 was passed over", y.again(1), -3);
        due.is("the orders behind are done", y.gain(0, 0, 20), 5);
        due.doing(y, "s1;+1;s1;", 0);
        due.is("room behind +", y.all(0), 2);
        due.is("told(2)", y.told(2), 0);
    }

    private static void doneInTheirOrder() {
        due.sentence("THE TEXT tells a day, ORDERS");
        StarSenders x = Due.joined(0);
        due.doing(x, "g00 0;s0;g00 60;r0;l1 2;s0;l1 0;", 0);
        due.is("copies", x.all(0), 6);
        due.copyIs("LAG as it was then", x, 5, 0, 1, 3);
        due.is("LAG behind", x.gate(1, 0, 0), 0);
        due.doing(x, "+2;z0;s0;+1;", 0);
        due.is("WINDOWS", x.all(1), 3);
        due.windowIs("the first letter", x, 0, 0, 0, 3, 1);
        due.windowIs("the second letter", x, 1, 0, 1, 3, 1);
        due.windowIs("a JOINING behind z", x, 2, 0, -1, 3, 3);
        due.doing(x, "+1;b0 0;b1 0;+2;", 3);
        due.is("no BUDGET for the JOINING", x.all(6), 1);
        due.marginsAre("the JOINING takes them", x, 0);
    }

    private static void takenByOrders() {
        due.sentence("how many letters and JOININGS were TAKEN");
        StarSenders x = Due.joined(0);
        due.doing(x, "s0;s1;+3;", 0);
        due.doing(x, "+1;", 2);
        due.doing(x, "s0;+4;s0;+4;s2;+4;", 3);
        due.doing(x, "r0;+9;", 0);
        due.is("a REPLAY is not", x.all(4), 2);
        due.is("letters", x.all(2), 3);
        due.is("JOININGS", x.all(3), 2);
        due.doing(x, "s0;+3;s1;", 0);
        due.is("by the next TICK, by ticks()", x.ticks(1), 1);
    }

    private static void doneTwice() {
        due.sentence("ORDERS are done");
        StarSenders x = new StarSenders();
        due.doing(x, "s0;+4;", 1);
        due.is("THE TEXT stays", x.told(3), 6);
        due.is("again", x.does(), 1);
        due.is("a JOINING, then a letter", x.all(2) * 10 + x.all(3), 11);
        x.sets(0, 1);
        due.is("THE TEXT stays by sets()", x.does(), 1);
        due.doing(x, "s0;s1;", -14);
        x.sets(0, 2);
        due.is("s1 may stand there now", x.told(3), 6);
        due.is("does()", x.does(), 0);
        due.is("both are sent", x.all(0), 4);
    }
}
