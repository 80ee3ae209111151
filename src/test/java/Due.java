/** Counts and prints the answers that are not as due; shared by the tests. */
final class Due {
    private int wrong = 0;
    private int looked = 0;
    private String sentence = "";

    /** The document's words that the answers looked at from now on hold; printed with a wrong one. */
    void sentence(String words) {
        sentence = words;
    }

    private void tellsWrong(String what) {
        wrong++;
        System.out.println((sentence.isEmpty() ? "" : "[" + sentence + "] ") + what);
    }

    void is(String call, long got, long want) {
        looked++;
        if (got != want) {
            tellsWrong(call + " answered " + got + ", due is " + want);
        }
    }

    void holds(String what, boolean so) {
        looked++;
        if (!so) {
            tellsWrong("does not hold: " + what);
        }
    }

    /** Looks at of(i, 0), of(i, 1), .. in turn. */
    void senderIs(String when, StarSenders x, int i, int... wants) {
        for (int what = 0; what < wants.length; what++) {
            is(when + ": of(" + i + ", " + what + ")", x.of(i, what), wants[what]);
        }
    }

    void gateIs(String when, StarSenders x, int j, int... wants) {
        for (int what = 0; what < wants.length; what++) {
            is(when + ": at(" + j + ", " + what + ")", x.at(j, what), wants[what]);
        }
    }

    void allIs(String when, StarSenders x, int... wants) {
        for (int what = 0; what < wants.length; what++) {
            is(when + ": all(" + what + ")", x.all(what), wants[what]);
        }
    }

    void marginsAre(String when, StarSenders x, int i, int... wants) {
        for (int k = 0; k < wants.length; k++) {
            is(when + ": margin(" + i + ", " + k + ")", x.margin(i, k), wants[k]);
        }
        is(when + ": margin(" + i + ", " + wants.length + ")", x.margin(i, wants.length), -1000);
    }

    void windowIs(String when, StarSenders x, int k, int... wants) {
        for (int what = 0; what < wants.length; what++) {
            is(when + ": window(" + k + ", " + what + ")", x.window(k, what), wants[what]);
        }
    }

    void copyIs(String when, StarSenders x, int k, int... wants) {
        for (int what = 0; what < wants.length; what++) {
            is(when + ": copy(" + k + ", " + what + ")", x.copy(k, what), wants[what]);
        }
    }

    void refusedAre(String when, StarSenders x, int bad, int no, int full) {
        is(when + ": told(0)", x.told(0), bad);
        is(when + ": told(1)", x.told(1), no);
        is(when + ": told(2)", x.told(2), full);
    }

    static void types(StarSenders x, String text) {
        x.clear();
        for (int k = 0; k < text.length(); k++) {
            x.type(text.charAt(k));
        }
    }

    /** The text is put in place of the one before and done. */
    void doing(StarSenders x, String text, int want) {
        types(x, text);
        is("does() of '" + text + "'", x.does(), want);
    }

    /** A sender that is joined without a joining. */
    static StarSenders joined(int... senders) {
        StarSenders x = new StarSenders();
        for (int i : senders) {
            x.sender(i, 3, 1);
        }
        return x;
    }

    /** With one gate, which hears sender 0 at gain and 2 power less 5 rate; he is joined. */
    static StarSenders oneGate(int rate, int power, int gain) {
        StarSenders x = new StarSenders();
        x.sets(1, 1);
        x.sender(0, 3, 1);
        x.sender(0, 0, rate);
        x.sender(0, 1, power);
        x.gain(0, 0, gain);
        return x;
    }

    /** Letters of a sender, each of which is taken ahead of the next. */
    void taking(StarSenders x, int i, int letters) {
        for (int k = 0; k < letters; k++) {
            x.sends(i);
            is("ticks(4)", x.ticks(4), 1);
        }
    }

    void end() {
        System.out.println(looked + " answers looked at, " + wrong + " wrong");
        if (wrong > 0 || looked == 0) {
            System.exit(1);
        }
    }
}
