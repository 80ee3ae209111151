import java.util.ArrayList;
import java.util.List;

/**
 * "Refused, changing nothing but how often, the first of: BAD, NO, FULL": every number of every call,
 * just beyond its bounds and far off. Of two objects that were made alike one is refused again and
 * again; whatever is asked or done behind that answers the same on both.
 */
public final class RefusedTest {
    private static final Due due = new Due();

    interface Call {
        int on(StarSenders x, int[] numbers);
    }

    /** A number that is right, and its bounds. */
    record Bound(int right, int least, int most) {}

    public static void main(String[] args) {
        for (int[] size : new int[][] {{3, 2}, {1, 1}, {6, 4}}) {
            whatIsTold(size[0], size[1]);
            days(size[0], size[1]);
            whatCameOfIt(size[0], size[1]);
            texts(size[0], size[1]);
        }
        nothingWasSent();
        moreThanFiftySix();
        fullText();
        badThenNoThenFull();
        countedForEach();
        due.end();
    }

    private static Bound sender(int n) {
        return new Bound(n - 1, 0, n - 1);
    }

    private static Bound gate(int g) {
        return new Bound(0, 0, g - 1);
    }

    private static Bound any(int right, int most) {
        return new Bound(right, 0, most);
    }

    private static Bound only(int what, int most) {
        return new Bound(what, 0, most);
    }

    private static void whatIsTold(int n, int g) {
        int[] most = {6, 4, 9};
        for (int what = 0; what < 3; what++) {
            refuses("sets", n, g, -2, (x, a) -> x.sets(a[0], a[1]), only(what, 2), new Bound(1, 1, most[what]));
        }
        for (int what = 0; what < 2; what++) {
            refuses("gate", n, g, -2, (x, a) -> x.gate(a[0], a[1], a[2]), gate(g), only(what, 1), any(3, what == 0 ? 5 : 40));
        }
        refuses("gain", n, g, -2, (x, a) -> x.gain(a[0], a[1], a[2]), sender(n), gate(g), any(5, 60));
        refuses("draw", n, g, -2, (x, a) -> x.draw(a[0]), any(9, 999999));
        int[] mostOf = {5, 4, 63, 1};
        for (int what = 0; what < 4; what++) {
            refuses("sender", n, g, -2, (x, a) -> x.sender(a[0], a[1], a[2]), sender(n), only(what, 3), any(1, mostOf[what]));
        }
    }

    private static void days(int n, int g) {
        refuses("sends", n, g, -2, (x, a) -> x.sends(a[0]), sender(n));
        refuses("again", n, g, -2, (x, a) -> x.again(a[0]), sender(n));
        refuses("ticks", n, g, -2, (x, a) -> x.ticks(a[0]), new Bound(1, 1, 99));
        refuses("renews", n, g, -2, (x, a) -> x.renews(a[0]), sender(n));
    }

    private static void whatCameOfIt(int n, int g) {
        Bound upward = any(0, Integer.MAX_VALUE);
        refuses("of", n, g, -2, (x, a) -> x.of(a[0], a[1]), sender(n), any(7, 7));
        refuses("margin", n, g, -2, (x, a) -> x.margin(a[0], a[1]), sender(n), upward);
        refuses("hears", n, g, -2000, (x, a) -> x.hears(a[0], a[1]), sender(n), gate(g));
        refuses("at", n, g, -2, (x, a) -> x.at(a[0], a[1]), gate(g), any(3, 3));
        refuses("all", n, g, -2, (x, a) -> x.all(a[0]), any(8, 8));
        refuses("window", n, g, -2, (x, a) -> x.window(a[0], a[1]), upward, any(3, 3));
        refuses("copy", n, g, -2, (x, a) -> x.copy(a[0], a[1]), upward, any(2, 2));
        Bound far = any(Integer.MAX_VALUE, Integer.MAX_VALUE);
        refuses("window", n, g, -2, (x, a) -> x.window(a[0], a[1]), far, any(3, 3));
        refuses("copy", n, g, -2, (x, a) -> x.copy(a[0], a[1]), far, any(2, 2));
        refuses("margin", n, g, -2, (x, a) -> x.margin(a[0], a[1]), sender(n), far);
    }

    private static void texts(int n, int g) {
        refuses("type", n, g, -2, (x, a) -> x.type(a[0]), any('s', 127));
        refuses("told", n, g, -2, (x, a) -> x.told(a[0]), any(6, 6));
    }

    /** Letters taken, windows open, copies on their way, margins, gaps, a replay, budgets spent, a text. */
    private static StarSenders lively(int n, int g) {
        StarSenders x = new StarSenders();
        x.sets(0, n);
        x.sets(1, g);
        x.gate(g - 1, 0, 4);
        x.gate(0, 1, 13);
        x.sends(n - 1);
        x.ticks(5);
        x.sends(n - 1);
        x.ticks(2);
        x.again(n - 1);
        x.sender(n - 1, 2, 4);
        x.sends(n - 1);
        x.ticks(7);
        x.sends(0);
        x.sender(0, 1, 3);
        x.ticks(1);
        x.again(0);
        Due.types(x, "s0; r0; +9; z0;");
        return x;
    }

    /** All that can be asked for but how often it was refused. */
    private static void asks(List<Integer> answers, StarSenders x, int n, int g) {
        for (int what = 3; what <= 6; what++) {
            answers.add(x.told(what));
        }
        for (int i = 0; i < n; i += Math.max(1, n - 1)) {
            for (int what = 0; what <= 7; what++) {
                answers.add(x.of(i, what));
            }
            for (int k = 0; k < 4; k++) {
                answers.add(x.margin(i, k));
                answers.add(x.hears(i, k % g));
            }
        }
        for (int j = 0; j < g; j++) {
            for (int what = 0; what <= 3; what++) {
                answers.add(x.at(j, what));
            }
        }
        for (int what = 0; what <= 8; what++) {
            answers.add(x.all(what));
        }
        for (int k = 0; k < 2; k++) {
            for (int what = 0; what <= 3; what++) {
                answers.add(x.window(k, what));
                answers.add(x.copy(k, Math.min(what, 2)));
            }
        }
    }

    private static List<Integer> whatFollows(StarSenders x, int n, int g) {
        List<Integer> answers = new ArrayList<>();
        asks(answers, x, n, g);
        answers.add(x.again(0));
        answers.add(x.ticks(3));
        answers.add(x.does());
        asks(answers, x, n, g);
        for (int j = 0; j < g; j++) {
            answers.add(x.gate(j, 0, 1));
            answers.add(x.gate(j, 1, 1));
        }
        return answers;
    }

    private static List<int[]> wrongOnes(Bound[] bounds) {
        List<int[]> wrong = new ArrayList<>();
        for (int p = 0; p < bounds.length; p++) {
            Bound b = bounds[p];
            for (long v : new long[] {b.least() - 1L, b.most() + 1L, -1, Integer.MIN_VALUE, Integer.MAX_VALUE, -1000000}) {
                if (v == (int) v && (v < b.least() || v > b.most())) {
                    wrong.add(rightBut(bounds, p, (int) v));
                }
            }
        }
        int[] all = new int[bounds.length];
        java.util.Arrays.fill(all, -1);
        wrong.add(all);
        return wrong;
    }

    private static int[] rightBut(Bound[] bounds, int p, int v) {
        int[] numbers = new int[bounds.length];
        for (int k = 0; k < bounds.length; k++) {
            numbers[k] = k == p ? v : bounds[k].right();
        }
        return numbers;
    }

    private static void refuses(String name, int n, int g, int answer, Call call, Bound... bounds) {
        due.sentence("BAD -2 a number is not as told: " + name + "(), n " + n + ", g " + g);
        StarSenders x = lively(n, g);
        StarSenders twin = lively(n, g);
        due.refusedAre("ahead", x, 0, 0, 0);
        int bad = 0;
        for (int[] numbers : wrongOnes(bounds)) {
            String words = name + java.util.Arrays.toString(numbers);
            due.is(words, call.on(x, numbers), answer);
            due.refusedAre(words, x, ++bad, 0, 0);
        }
        due.holds("nothing else is changed", whatFollows(x, n, g).equals(whatFollows(twin, n, g)));
        StarSenders right = lively(n, g);
        call.on(right, rightBut(bounds, -1, 0));
        due.refusedAre("what is right is not refused", right, 0, 0, 0);
    }

    private static void nothingWasSent() {
        due.sentence("NO -3 as told: again(), NO: nothing");
        StarSenders x = lively(3, 2);
        StarSenders twin = lively(3, 2);
        due.is("again(1)", x.again(1), -3);
        due.refusedAre("one", x, 0, 1, 0);
        due.is("again(1)", x.again(1), -3);
        due.refusedAre("two", x, 0, 2, 0);
        due.holds("nothing else is changed", whatFollows(x, 3, 2).equals(whatFollows(twin, 3, 2)));
    }

    /** With one gate, 57 copies on their way. */
    private static StarSenders crowded() {
        StarSenders x = new StarSenders();
        x.sets(1, 1);
        x.sender(0, 3, 1);
        x.sender(2, 1, 0);
        x.sender(2, 0, 5);
        x.gain(2, 0, 0);
        for (int k = 0; k < 57; k++) {
            x.sends(k < 50 ? 0 : 1);
        }
        Due.types(x, "s0; r0; +9; z0;");
        return x;
    }

    private static void moreThanFiftySix() {
        due.sentence("FULL -4: more than 56 copies are on their way");
        StarSenders x = crowded();
        StarSenders twin = crowded();
        due.is("all(0)", x.all(0), 57);
        due.refusedAre("56 are not too many", x, 0, 0, 0);
        due.is("a letter", x.sends(0), -4);
        due.is("a JOINING", x.sends(1), -4);
        due.is("what none would hear", x.sends(2), -4);
        due.is("a letter again", x.again(0), -4);
        due.is("a JOINING again", x.again(1), -4);
        due.refusedAre("five", x, 0, 0, 5);
        due.is("what was refused was not sent", x.again(2), -3);
        due.is("all(0)", x.all(0), 57);
        due.holds("nothing else is changed", whatFollows(x, 3, 1).equals(whatFollows(twin, 3, 1)));
        // one that has come makes room for one
        StarSenders y = crowded();
        y.sets(1, 1);
        y.sender(0, 3, 1);
        y.sends(0);
        y.gate(0, 0, 3);
        for (int k = 0; k < 56; k++) {
            y.sends(0);
        }
        due.is("57", y.sends(0), -4);
        y.ticks(1);
        due.is("56", y.all(0), 56);
        due.is("one more", y.sends(0), 1);
        due.is("57", y.sends(0), -4);
        // of four GATES 56 become 60, 58 become none
        StarSenders z = new StarSenders();
        z.sets(1, 4);
        for (int k = 0; k < 14; k++) {
            due.is("sends(0)", z.sends(0), 4);
        }
        due.is("56", z.all(0), 56);
        due.is("at 56", z.again(0), 4);
        due.is("60", z.all(0), 60);
        due.is("at 60", z.again(0), -4);
        due.copyIs("the last", z, 59, 0, 3, 1);
        due.is("copy(60, 0)", z.copy(60, 0), -1);
        z.ticks(1);
        due.is("all have come", z.all(0), 0);
        due.is("merged", z.all(7), 59);
    }

    private static void fullText() {
        due.sentence("type: BAD; FULL: 120");
        StarSenders x = new StarSenders();
        for (int k = 1; k <= 120; k++) {
            due.is("type", x.type(k <= 117 ? ' ' : "+7;".charAt(k - 118)), k);
        }
        due.is("at 120", x.type(';'), -4);
        due.is("at 120", x.type(0), -4);
        due.refusedAre("FULL", x, 0, 0, 2);
        due.is("told(3)", x.told(3), 120);
        due.is("THE TEXT is as it was", x.does(), 0);
        due.is("TICKS", x.all(8), 7);
        due.is("clear()", x.clear(), 120);
        due.is("room again", x.type(' '), 1);
    }

    private static void badThenNoThenFull() {
        due.sentence("the first of: BAD .. NO .. FULL");
        StarSenders x = crowded();
        due.is("BAD ahead of FULL", x.sends(3), -2);
        due.is("BAD ahead of NO and FULL", x.again(-1), -2);
        due.is("NO ahead of FULL", x.again(2), -3);
        due.is("FULL", x.again(0), -4);
        due.refusedAre("one each, BAD twice", x, 2, 1, 1);
        for (int k = x.told(3); k < 120; k++) {
            x.type(' ');
        }
        due.is("BAD ahead of FULL", x.type(128), -2);
        due.is("BAD ahead of FULL", x.type(-1), -2);
        due.refusedAre("BAD", x, 4, 1, 1);
    }

    private static void countedForEach() {
        due.sentence("How often refused: BAD (0), NO (1), FULL (2)");
        StarSenders x = new StarSenders();
        for (int k = 1; k <= 30; k++) {
            due.is("told(-1)", x.told(-1), -2);
            due.is("told(0)", x.told(0), 2 * k - 1);
            due.is("hears(-1, 0)", x.hears(-1, 0), -2000);
            due.is("told(0)", x.told(0), 2 * k);
            due.is("again(0)", x.again(0), -3);
            due.is("told(1)", x.told(1), k);
        }
        due.is("what is none is not refused", x.window(0, 0) + x.copy(0, 0) + x.margin(0, 0), -1002);
        due.is("nor is a FAULT", x.does(), -10);
        due.refusedAre("as before", x, 60, 30, 0);
    }
}
