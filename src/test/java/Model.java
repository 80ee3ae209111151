import java.util.ArrayList;
import java.util.Comparator;
import java.util.List;
import java.util.regex.Matcher;
import java.util.regex.Pattern;

/**
 * The document once more, written slowly and from its words: history in lists, what is asked for
 * counted anew each time, faults found by asking which prefixes can still become a text.
 */
final class Model {
    record Copy(int sender, int letter, int gate, int margin, int due) {}

    record Answer(int gate, int cost, int tick) {}

    record Window(int sender, int letter, int closes, List<Copy> copies) {}

    private static final int JOINING = -1;
    private static final int NOTHING = -2;

    int n = 3;
    int g = 2;
    int windowTicks = 3;
    int bad;
    int no;
    int full;
    String text = "";

    int tick;
    int[][] gain;
    int[] lag;
    int[] budget;
    int[] rate;
    int[] power;
    int[] counter;
    int[] joined;
    int[] sent;
    int[] last;
    int[] taken;
    int[] gaps;
    int[] sentOn;
    int[] best;
    List<List<Integer>> margins;
    List<Copy> copies;
    List<Window> windows;
    List<Answer> answers;
    int letters;
    int joinings;
    int replays;
    int lost;
    int merged;

    Model() {
        startAnew();
    }

    private static int[] row(int size, int v) {
        int[] r = new int[size];
        java.util.Arrays.fill(r, v);
        return r;
    }

    private void startAnew() {
        tick = 0;
        gain = new int[n][];
        margins = new ArrayList<>();
        for (int i = 0; i < n; i++) {
            gain[i] = row(g, 20);
            margins.add(new ArrayList<>());
        }
        lag = row(g, 0);
        budget = row(g, 10);
        sentOn = row(g, 0);
        best = row(g, 0);
        rate = row(n, 0);
        power = row(n, 4);
        counter = row(n, 0);
        joined = row(n, 0);
        sent = row(n, NOTHING);
        last = row(n, 63);
        taken = row(n, 0);
        gaps = row(n, 0);
        copies = new ArrayList<>();
        windows = new ArrayList<>();
        answers = new ArrayList<>();
        letters = joinings = replays = lost = merged = 0;
    }

    private static boolean in(int v, int from, int to) {
        return v >= from && v <= to;
    }

    private boolean refused(boolean fine) {
        bad += fine ? 0 : 1;
        return !fine;
    }

    int sets(int what, int v) {
        if (refused(in(what, 0, 2) && in(v, 1, what == 0 ? 6 : what == 1 ? 4 : 9))) {
            return -2;
        }
        int was = new int[] {n, g, windowTicks}[what];
        n = what == 0 ? v : n;
        g = what == 1 ? v : g;
        windowTicks = what == 2 ? v : windowTicks;
        startAnew();
        return was;
    }

    private static int put(int[] row, int k, int v) {
        int was = row[k];
        row[k] = v;
        return was;
    }

    int gate(int j, int what, int v) {
        if (refused(in(j, 0, g - 1) && in(what, 0, 1) && in(v, 0, what == 0 ? 5 : 40))) {
            return -2;
        }
        return put(what == 0 ? lag : budget, j, v);
    }

    int gain(int i, int j, int v) {
        if (refused(in(i, 0, n - 1) && in(j, 0, g - 1) && in(v, 0, 60))) {
            return -2;
        }
        return put(gain[i], j, v);
    }

    int draw(int seed) {
        if (refused(in(seed, 0, 999999))) {
            return -2;
        }
        java.math.BigInteger x = java.math.BigInteger.valueOf(seed);
        int sum = 0;
        for (int i = 0; i < n; i++) {
            for (int j = 0; j < g; j++) {
                x = x.multiply(java.math.BigInteger.valueOf(1103515245)).add(java.math.BigInteger.valueOf(12345))
                    .mod(java.math.BigInteger.TWO.pow(31));
                gain[i][j] = x.shiftRight(16).mod(java.math.BigInteger.valueOf(61)).intValue();
                sum += gain[i][j];
            }
        }
        return sum;
    }

    int sender(int i, int what, int v) {
        if (refused(in(i, 0, n - 1) && in(what, 0, 3) && in(v, 0, new int[] {5, 4, 63, 1}[what]))) {
            return -2;
        }
        return put(new int[][] {rate, power, counter, joined}[what], i, v);
    }

    private int margin0(int i, int j) {
        return gain[i][j] + 2 * power[i] - 5 * rate[i];
    }

    private int spread(int i) {
        int heard = 0;
        for (int j = 0; j < g; j++) {
            if (margin0(i, j) >= 0) {
                copies.add(new Copy(i, sent[i], j, margin0(i, j), tick + 1 + lag[j]));
                sentOn[j]++;
                heard++;
            }
        }
        return heard;
    }

    private int sending(int i) {
        sent[i] = joined[i] == 1 ? counter[i] : JOINING;
        counter[i] = joined[i] == 1 ? (counter[i] + 1) & 63 : counter[i];
        return spread(i);
    }

    private boolean isFull() {
        return copies.size() > 56;
    }

    int sends(int i) {
        if (refused(in(i, 0, n - 1))) {
            return -2;
        }
        if (isFull()) {
            full++;
            return -4;
        }
        return sending(i);
    }

    int again(int i) {
        if (refused(in(i, 0, n - 1))) {
            return -2;
        }
        if (sent[i] == NOTHING) {
            no++;
            return -3;
        }
        if (isFull()) {
            full++;
            return -4;
        }
        return spread(i);
    }

    int ticks(int m) {
        return refused(in(m, 1, 99)) ? -2 : pass(m);
    }

    private int pass(int m) {
        int before = letters + joinings;
        for (int k = 0; k < m; k++) {
            tick++;
            oneTick();
        }
        return letters + joinings - before;
    }

    private int ahead(int i, int letter) {
        return (letter - last[i] + 64) % 64;
    }

    private void oneTick() {
        List<Copy> now = new ArrayList<>(copies);
        now.removeIf(c -> c.due() != tick);
        copies.removeAll(now);
        for (Copy c : now) {
            comes(c);
        }
        List<Window> ripe = new ArrayList<>(windows);
        ripe.removeIf(w -> w.closes() != tick);
        windows.removeAll(ripe);
        for (Window w : ripe) {
            if (w.letter() == JOINING) {
                takesJoining(w);
            } else {
                takesLetter(w);
            }
        }
    }

    private void comes(Copy c) {
        for (Window w : windows) {
            if (w.sender() == c.sender() && w.letter() == c.letter()) {
                w.copies().add(c);
                merged++;
                return;
            }
        }
        if (c.letter() != JOINING && !in(ahead(c.sender(), c.letter()), 1, 32)) {
            replays++;
            return;
        }
        windows.add(new Window(c.sender(), c.letter(), tick + windowTicks, new ArrayList<>(List.of(c))));
    }

    private static List<Copy> byMargins(Window w) {
        List<Copy> sorted = new ArrayList<>(w.copies());
        sorted.sort(Comparator.comparingInt((Copy c) -> -c.margin()).thenComparingInt(Copy::gate));
        return sorted;
    }

    private int left(int j) {
        int spent = 0;
        for (Answer a : answers) {
            if (a.gate() == j && (a.tick() - 1) / 60 == (Math.max(tick, 1) - 1) / 60) {
                spent += a.cost();
            }
        }
        return budget[j] - spent;
    }

    private boolean answered(Window w) {
        int cost = 6 - rate[w.sender()];
        for (Copy c : byMargins(w)) {
            if (left(c.gate()) >= cost) {
                answers.add(new Answer(c.gate(), cost, tick));
                return true;
            }
        }
        lost++;
        return false;
    }

    private void takesJoining(Window w) {
        int i = w.sender();
        joinings++;
        last[i] = 63;
        margins.get(i).clear();
        if (answered(w)) {
            joined[i] = 1;
            counter[i] = 0;
        }
    }

    private void takesLetter(Window w) {
        int i = w.sender();
        if (!in(ahead(i, w.letter()), 1, 32)) {
            replays++;
            return;
        }
        letters++;
        taken[i]++;
        gaps[i] += ahead(i, w.letter()) - 1;
        last[i] = w.letter();
        Copy top = byMargins(w).get(0);
        best[top.gate()]++;
        List<Integer> noted = margins.get(i);
        noted.add(top.margin());
        if (noted.size() == 5) {
            noted.remove(0);
        }
        if (noted.size() == 4) {
            tunes(w, i, noted);
        }
    }

    private void tunes(Window w, int i, List<Integer> noted) {
        int m = noted.stream().max(Comparator.naturalOrder()).get() - 6;
        int r = rate[i];
        int p = power[i];
        for (; m >= 5 && r < 5; m -= 5) {
            r++;
        }
        for (; m >= 2 && p > 0; m -= 2) {
            p--;
        }
        for (; m < 0 && p < 4; m += 2) {
            p++;
        }
        for (; m < 0 && r > 0; m += 5) {
            r--;
        }
        if (r == rate[i] && p == power[i]) {
            return;
        }
        noted.clear();
        if (answered(w) && joined[i] == 1) {
            rate[i] = r;
            power[i] = p;
        }
    }

    private void renew(int i) {
        joined[i] = 0;
        rate[i] = 0;
        power[i] = 4;
        counter[i] = 0;
        sent[i] = NOTHING;
    }

    int renews(int i) {
        if (refused(in(i, 0, n - 1))) {
            return -2;
        }
        int was = joined[i];
        renew(i);
        return was;
    }

    int of(int i, int what) {
        if (refused(in(i, 0, n - 1) && in(what, 0, 7))) {
            return -2;
        }
        return new int[] {rate[i], power[i], counter[i], joined[i], last[i], margins.get(i).size(), taken[i], gaps[i]}[what];
    }

    int margin(int i, int k) {
        if (refused(in(i, 0, n - 1) && k >= 0)) {
            return -2;
        }
        return k < margins.get(i).size() ? margins.get(i).get(k) : -1000;
    }

    int hears(int i, int j) {
        return refused(in(i, 0, n - 1) && in(j, 0, g - 1)) ? -2000 : margin0(i, j);
    }

    int at(int j, int what) {
        if (refused(in(j, 0, g - 1) && in(what, 0, 3))) {
            return -2;
        }
        int sentAnswers = (int) answers.stream().filter(a -> a.gate() == j).count();
        return new int[] {sentOn[j], sentAnswers, left(j), best[j]}[what];
    }

    int all(int what) {
        if (refused(in(what, 0, 8))) {
            return -2;
        }
        return new int[] {copies.size(), windows.size(), letters, joinings, replays, answers.size(), lost, merged, tick}[what];
    }

    int window(int k, int what) {
        if (refused(k >= 0 && in(what, 0, 3))) {
            return -2;
        }
        if (k >= windows.size()) {
            return -1;
        }
        Window w = windows.get(k);
        int bits = w.copies().stream().mapToInt(c -> 1 << c.gate()).reduce(0, (a, b) -> a | b);
        return new int[] {w.sender(), w.letter(), bits, w.closes() - tick}[what];
    }

    int copy(int k, int what) {
        if (refused(k >= 0 && in(what, 0, 2))) {
            return -2;
        }
        if (k >= copies.size()) {
            return -1;
        }
        Copy c = copies.get(k);
        return new int[] {c.sender(), c.gate(), c.due() - tick}[what];
    }

    int type(int c) {
        if (refused(in(c, 0, 127))) {
            return -2;
        }
        if (text.length() == 120) {
            full++;
            return -4;
        }
        text += (char) c;
        return text.length();
    }

    int clear() {
        int had = text.length();
        text = "";
        return had;
    }

    private Pattern grammar() {
        String i = " *[0-" + (n - 1) + "]";
        String j = " *[0-" + (g - 1) + "]";
        String order = "[szr]" + i + "|\\+ *[0-9][0-9]?|g" + i + j + " *(?:60|[0-5]?[0-9])|b" + j
            + " *(?:40|[0-3]?[0-9])|l" + j + " *0?[0-5]";
        return Pattern.compile("(?: *(?:" + order + ") *;)+ *");
    }

    private int fault() {
        Pattern grammar = grammar();
        for (int size = 1; size <= text.length(); size++) {
            Matcher m = grammar.matcher(text.substring(0, size));
            if (!m.matches() && !m.hitEnd()) {
                return placeOf(size - 1);
            }
        }
        return grammar.matcher(text).matches() ? -1 : text.length();
    }

    /** A figure that makes a number too great or too long is told by the number's first byte. */
    private int placeOf(int offender) {
        if (!in(text.charAt(offender), '0', '9')) {
            return offender;
        }
        Matcher number = Pattern.compile("(?:\\+ *|[bl] *[0-9] *|g *[0-9] *[0-9] *)([0-9]{1,2})$")
            .matcher(text.substring(0, offender));
        return number.find() ? number.start(1) : offender;
    }

    int does() {
        int fault = fault();
        if (fault >= 0) {
            return -10 - fault;
        }
        int before = letters + joinings;
        for (String order : text.replace(" ", "").split(";")) {
            obey(order.charAt(0), order.substring(1));
        }
        return letters + joinings - before;
    }

    private void obey(char kind, String rest) {
        int first = rest.charAt(0) - '0';
        if (kind == '+') {
            pass(Integer.parseInt(rest));
        } else if (kind == 'g') {
            gain[first][rest.charAt(1) - '0'] = Integer.parseInt(rest.substring(2));
        } else if (kind == 'b' || kind == 'l') {
            put(kind == 'b' ? budget : lag, first, Integer.parseInt(rest.substring(1)));
        } else if (kind == 'z') {
            renew(first);
        } else if (kind == 's' && !isFull()) {
            sending(first);
        } else if (kind == 'r' && !isFull() && sent[first] != NOTHING) {
            spread(first);
        }
    }

    int told(int what) {
        if (refused(in(what, 0, 6))) {
            return -2;
        }
        return new int[] {bad, no, full, text.length(), n, g, windowTicks}[what];
    }

    long digest() {
        long h = 2131;
        for (int what = 0; what <= 6; what++) {
            h = 31 * h + told(what);
        }
        for (int i = 0; i < n; i++) {
            for (int what = 0; what <= 7; what++) {
                h = 31 * h + of(i, what);
            }
        }
        for (int j = 0; j < g; j++) {
            for (int what = 0; what <= 3; what++) {
                h = 31 * h + at(j, what);
            }
        }
        for (int what = 0; what <= 8; what++) {
            h = 31 * h + all(what);
        }
        return h;
    }
}
