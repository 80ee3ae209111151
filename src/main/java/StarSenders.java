import java.util.Arrays;

/**
 * Small senders heard by several gates at once. The gates send copies of what they hear to a
 * house, which merges them, takes each letter once and answers by the gate that heard best.
 *
 * <p>This outer class is the face: it looks at every number, counts what it refuses and hands the
 * rest to the {@link Net}. Orders of a text go to the net directly, so they are never counted.
 */
public final class StarSenders {
    public static final int NONE = -1, BAD = -2, NO = -3, FULL = -4;

    private static final int MOST_SENDERS = 6;
    private static final int MOST_GATES = 4;
    private static final int LONGEST_WINDOW = 9;
    private static final int MOST_LAG = 5;
    private static final int MOST_BUDGET = 40;
    private static final int MOST_GAIN = 60;
    private static final int MOST_RATE = 5;
    private static final int MOST_POWER = 4;
    private static final int MOST_TICKS = 99;
    private static final int MOST_SEED = 999999;
    private static final int LAST_BYTE = 127;

    private static final int FIRST_SENDERS = 3;
    private static final int FIRST_GATES = 2;
    private static final int FIRST_WINDOW = 3;
    private static final int FIRST_BUDGET = 10;
    private static final int FIRST_GAIN = 20;

    private static final int COUNTERS = 64;
    private static final int FARTHEST_AHEAD = 32;
    private static final int NOTES = 4;
    private static final int BUDGET_TICKS = 60;
    private static final int ANSWER_COST = 6;
    private static final int KEPT_MARGIN = 6;
    private static final int RATE_STEP = 5;
    private static final int POWER_STEP = 2;

    private static final int COPIES_BEFORE_FULL = 56;
    /** A sending that is not refused may still add a copy for each gate. */
    private static final int COPY_ROOM = COPIES_BEFORE_FULL + MOST_GATES;
    /** No two open windows are of the same sender and counter (or joining). */
    private static final int WINDOW_ROOM = MOST_SENDERS * (COUNTERS + 1);
    private static final int TEXT_ROOM = 120;
    /** The shortest order has three bytes. */
    private static final int ORDER_ROOM = TEXT_ROOM / 3;

    /** Stands for a joining where a letter would have its counter. */
    private static final int JOINING = NONE;
    private static final int NOTHING_SENT = -2;
    /** Copies go on only with margins of 0 or more, so this is below all of them. */
    private static final int UNHEARD = -1;
    private static final int NOT_NOTED = -1000;
    private static final int BAD_HEARING = -2000;
    private static final int FAULT_BASE = -10;
    private static final int NO_FAULT = -1;

    private final Net net = new Net();
    private final Text text = new Text();
    private int badCount;
    private int noCount;
    private int fullCount;

    public StarSenders() {
        net.startAnew();
    }

    // ---- what is told

    public int sets(int what, int v) {
        if (what < 0 || what > 2 || v < 1 || v > mostOfSetting(what)) {
            return refuseBad();
        }
        int was = setting(what);
        if (what == 0) {
            net.senderCount = v;
        } else if (what == 1) {
            net.gateCount = v;
        } else {
            net.windowTicks = v;
        }
        net.startAnew();
        return was;
    }

    public int gate(int j, int what, int v) {
        if (!isGate(j) || what < 0 || what > 1 || v < 0 || v > (what == 0 ? MOST_LAG : MOST_BUDGET)) {
            return refuseBad();
        }
        Gate gate = net.gates[j];
        int was = what == 0 ? gate.lag : gate.budget;
        if (what == 0) {
            gate.lag = v;
        } else {
            gate.budget = v;
        }
        return was;
    }

    public int gain(int i, int j, int v) {
        if (!isSender(i) || !isGate(j) || v < 0 || v > MOST_GAIN) {
            return refuseBad();
        }
        int was = net.gains[i][j];
        net.gains[i][j] = v;
        return was;
    }

    public int draw(int seed) {
        if (seed < 0 || seed > MOST_SEED) {
            return refuseBad();
        }
        return net.drawGains(seed);
    }

    public int sender(int i, int what, int v) {
        if (!isSender(i) || what < 0 || what > 3 || v < 0 || v > mostOfSender(what)) {
            return refuseBad();
        }
        return net.senders[i].change(what, v);
    }

    // ---- days

    public int sends(int i) {
        if (!isSender(i)) {
            return refuseBad();
        }
        if (net.isFull()) {
            return refuseFull();
        }
        return net.sendNext(i);
    }

    public int again(int i) {
        if (!isSender(i)) {
            return refuseBad();
        }
        if (!net.senders[i].hasSent()) {
            return refuseNo();
        }
        if (net.isFull()) {
            return refuseFull();
        }
        return net.sendLastAgain(i);
    }

    public int ticks(int m) {
        if (m < 1 || m > MOST_TICKS) {
            return refuseBad();
        }
        return net.passTicks(m);
    }

    public int renews(int i) {
        if (!isSender(i)) {
            return refuseBad();
        }
        int was = net.senders[i].joined;
        net.senders[i].becomeNew();
        return was;
    }

    // ---- what came of it

    public int of(int i, int what) {
        if (!isSender(i) || what < 0 || what > 7) {
            return refuseBad();
        }
        return net.senders[i].value(what);
    }

    public int margin(int i, int k) {
        if (!isSender(i) || k < 0) {
            return refuseBad();
        }
        Sender sender = net.senders[i];
        return k < sender.noted && k < NOTES ? sender.margins[k] : NOT_NOTED;
    }

    public int hears(int i, int j) {
        if (!isSender(i) || !isGate(j)) {
            badCount++;
            return BAD_HEARING;
        }
        return net.marginAt(i, j);
    }

    public int at(int j, int what) {
        if (!isGate(j) || what < 0 || what > 3) {
            return refuseBad();
        }
        return net.gates[j].value(what);
    }

    public int all(int what) {
        if (what < 0 || what > 8) {
            return refuseBad();
        }
        return net.value(what);
    }

    public int window(int k, int what) {
        if (k < 0 || what < 0 || what > 3) {
            return refuseBad();
        }
        if (k >= net.windows.count) {
            return NONE;
        }
        if (what == 3) {
            return net.windows.opened[k] + net.windowTicks - net.tick;
        }
        return net.windows.value(k, what);
    }

    public int copy(int k, int what) {
        if (k < 0 || what < 0 || what > 2) {
            return refuseBad();
        }
        if (k >= net.copies.count) {
            return NONE;
        }
        if (what == 2) {
            return net.copies.due[k] - net.tick;
        }
        return what == 0 ? net.copies.sender[k] : net.copies.gate[k];
    }

    // ---- texts

    public int type(int c) {
        if (c < 0 || c > LAST_BYTE) {
            return refuseBad();
        }
        if (text.length >= TEXT_ROOM) {
            return refuseFull();
        }
        text.bytes[text.length] = c;
        text.length++;
        return text.length;
    }

    public int clear() {
        int had = text.length;
        text.length = 0;
        return had;
    }

    public int does() {
        int fault = text.readOrders(net.senderCount, net.gateCount);
        if (fault != NO_FAULT) {
            return FAULT_BASE - fault;
        }
        int taken = 0;
        for (int k = 0; k < text.orders && k < ORDER_ROOM; k++) {
            taken += carryOut(k);
        }
        return taken;
    }

    public int told(int what) {
        if (what < 0 || what > 6) {
            return refuseBad();
        }
        switch (what) {
            case 0: return badCount;
            case 1: return noCount;
            case 2: return fullCount;
            case 3: return text.length;
            default: return setting(what - 4);
        }
    }

    public long digest() {
        long h = 2131;
        for (int what = 0; what <= 6; what++) {
            h = 31 * h + told(what);
        }
        for (int i = 0; i < net.senderCount; i++) {
            for (int what = 0; what <= 7; what++) {
                h = 31 * h + of(i, what);
            }
        }
        for (int j = 0; j < net.gateCount; j++) {
            for (int what = 0; what <= 3; what++) {
                h = 31 * h + at(j, what);
            }
        }
        for (int what = 0; what <= 8; what++) {
            h = 31 * h + all(what);
        }
        return h;
    }

    private int refuseBad() {
        badCount++;
        return BAD;
    }

    private int refuseNo() {
        noCount++;
        return NO;
    }

    private int refuseFull() {
        fullCount++;
        return FULL;
    }

    private boolean isSender(int i) {
        return i >= 0 && i < net.senderCount;
    }

    private boolean isGate(int j) {
        return j >= 0 && j < net.gateCount;
    }

    private int setting(int what) {
        switch (what) {
            case 0: return net.senderCount;
            case 1: return net.gateCount;
            default: return net.windowTicks;
        }
    }

    private static int mostOfSetting(int what) {
        switch (what) {
            case 0: return MOST_SENDERS;
            case 1: return MOST_GATES;
            default: return LONGEST_WINDOW;
        }
    }

    private static int mostOfSender(int what) {
        switch (what) {
            case 0: return MOST_RATE;
            case 1: return MOST_POWER;
            case 2: return COUNTERS - 1;
            default: return 1;
        }
    }

    /** Does the k-th order of the text, or passes it over if it can't be; answers how many were taken. */
    private int carryOut(int k) {
        int i = text.orderSender[k];
        int j = text.orderGate[k];
        int number = text.orderNumber[k];
        switch (text.orderKind[k]) {
            case 's':
                if (!net.isFull()) {
                    net.sendNext(i);
                }
                return 0;
            case 'r':
                if (net.senders[i].hasSent() && !net.isFull()) {
                    net.sendLastAgain(i);
                }
                return 0;
            case '+':
                return net.passTicks(number);
            case 'g':
                net.gains[i][j] = number;
                return 0;
            case 'b':
                net.gates[j].budget = number;
                return 0;
            case 'l':
                net.gates[j].lag = number;
                return 0;
            default:
                net.senders[i].becomeNew();
                return 0;
        }
    }

    /** A sender, and what the house knows of him. */
    private static final class Sender {
        int rate;
        int power;
        int counter;
        int joined;
        int sentLast;
        int last;
        final int[] margins = new int[NOTES];
        int noted;
        int taken;
        int gaps;

        void becomeNew() {
            rate = 0;
            power = MOST_POWER;
            counter = 0;
            joined = 0;
            sentLast = NOTHING_SENT;
        }

        void becomeUnknown() {
            last = COUNTERS - 1;
            noted = 0;
            taken = 0;
            gaps = 0;
        }

        boolean hasSent() {
            return sentLast != NOTHING_SENT;
        }

        /** What he sends next; the counter of a letter goes on by it. */
        int nextLetter() {
            if (joined == 0) {
                sentLast = JOINING;
            } else {
                sentLast = counter;
                counter = (counter + 1) % COUNTERS;
            }
            return sentLast;
        }

        int aheadOfLast(int letter) {
            return Math.floorMod(letter - last, COUNTERS);
        }

        boolean isDue(int letter) {
            int ahead = aheadOfLast(letter);
            return ahead >= 1 && ahead <= FARTHEST_AHEAD;
        }

        void takeLetter(int letter, int margin) {
            gaps += aheadOfLast(letter) - 1;
            last = letter;
            taken++;
            if (noted >= NOTES) {
                System.arraycopy(margins, 1, margins, 0, NOTES - 1);
                noted = NOTES - 1;
            }
            margins[noted] = margin;
            noted++;
        }

        int greatestMargin() {
            int greatest = UNHEARD;
            for (int k = 0; k < noted && k < NOTES; k++) {
                greatest = Math.max(greatest, margins[k]);
            }
            return greatest;
        }

        int change(int what, int v) {
            int was = value(what);
            switch (what) {
                case 0: rate = v; break;
                case 1: power = v; break;
                case 2: counter = v; break;
                default: joined = v; break;
            }
            return was;
        }

        int value(int what) {
            switch (what) {
                case 0: return rate;
                case 1: return power;
                case 2: return counter;
                case 3: return joined;
                case 4: return last;
                case 5: return noted;
                case 6: return taken;
                default: return gaps;
            }
        }
    }

    private static final class Gate {
        int lag;
        int budget;
        int spent;
        int sentOn;
        int answers;
        int best;

        void becomeNew() {
            lag = 0;
            budget = FIRST_BUDGET;
            spent = 0;
            sentOn = 0;
            answers = 0;
            best = 0;
        }

        int left() {
            return budget - spent;
        }

        int value(int what) {
            switch (what) {
                case 0: return sentOn;
                case 1: return answers;
                case 2: return left();
                default: return best;
            }
        }
    }

    /** The copies on their way, as they were sent. */
    private static final class Copies {
        final int[] sender = new int[COPY_ROOM];
        final int[] letter = new int[COPY_ROOM];
        final int[] gate = new int[COPY_ROOM];
        final int[] margin = new int[COPY_ROOM];
        final int[] due = new int[COPY_ROOM];
        int count;

        void add(int i, int sent, int j, int heard, int tick) {
            if (count < COPY_ROOM) {
                sender[count] = i;
                letter[count] = sent;
                gate[count] = j;
                margin[count] = heard;
                due[count] = tick;
                count++;
            }
        }

        void move(int from, int to) {
            sender[to] = sender[from];
            letter[to] = letter[from];
            gate[to] = gate[from];
            margin[to] = margin[from];
            due[to] = due[from];
        }
    }

    /** The open windows, as they were opened: those that close first stand first. */
    private static final class Windows {
        final int[] sender = new int[WINDOW_ROOM];
        final int[] letter = new int[WINDOW_ROOM];
        final int[] opened = new int[WINDOW_ROOM];
        /** For each window the greatest margin at each gate, in one row. */
        final int[] heard = new int[WINDOW_ROOM * MOST_GATES];
        int count;

        int find(int i, int sent) {
            for (int w = 0; w < count; w++) {
                if (sender[w] == i && letter[w] == sent) {
                    return w;
                }
            }
            return NONE;
        }

        void open(int i, int sent, int tick) {
            if (count < WINDOW_ROOM) {
                sender[count] = i;
                letter[count] = sent;
                opened[count] = tick;
                for (int j = 0; j < MOST_GATES; j++) {
                    heard[count * MOST_GATES + j] = UNHEARD;
                }
                count++;
            }
        }

        void hear(int w, int j, int margin) {
            if (w >= 0 && w < count) {
                int place = w * MOST_GATES + j;
                heard[place] = Math.max(heard[place], margin);
            }
        }

        int heardAt(int w, int j) {
            return heard[w * MOST_GATES + j];
        }

        int bestGate(int w) {
            int best = 0;
            for (int j = 1; j < MOST_GATES; j++) {
                if (heardAt(w, j) > heardAt(w, best)) {
                    best = j;
                }
            }
            return best;
        }

        void dropFirst(int n) {
            int rest = count - n;
            if (n > 0 && rest >= 0) {
                System.arraycopy(sender, n, sender, 0, rest);
                System.arraycopy(letter, n, letter, 0, rest);
                System.arraycopy(opened, n, opened, 0, rest);
                System.arraycopy(heard, n * MOST_GATES, heard, 0, rest * MOST_GATES);
                count = rest;
            }
        }

        int value(int w, int what) {
            switch (what) {
                case 0: return sender[w];
                case 1: return letter[w];
                default: return gateBits(w);
            }
        }

        private int gateBits(int w) {
            int bits = 0;
            for (int j = 0; j < MOST_GATES; j++) {
                if (heardAt(w, j) != UNHEARD) {
                    bits |= 1 << j;
                }
            }
            return bits;
        }
    }

    /** How fast and how loud a sender should send; one is kept and used again. */
    private static final class Tuning {
        int rate;
        int power;

        void find(int rateNow, int powerNow, int greatestMargin) {
            rate = rateNow;
            power = powerNow;
            int spare = greatestMargin - KEPT_MARGIN;
            while (spare >= RATE_STEP && rate < MOST_RATE) {
                rate++;
                spare -= RATE_STEP;
            }
            while (spare >= POWER_STEP && power > 0) {
                power--;
                spare -= POWER_STEP;
            }
            while (spare < 0 && power < MOST_POWER) {
                power++;
                spare += POWER_STEP;
            }
            while (spare < 0 && rate > 0) {
                rate--;
                spare += RATE_STEP;
            }
        }
    }

    /** Senders, gates, what is on its way between them, and the house. Its callers have looked at all numbers. */
    private static final class Net {
        int senderCount = FIRST_SENDERS;
        int gateCount = FIRST_GATES;
        int windowTicks = FIRST_WINDOW;
        int tick;
        final int[][] gains = new int[MOST_SENDERS][MOST_GATES];
        final Sender[] senders = new Sender[MOST_SENDERS];
        final Gate[] gates = new Gate[MOST_GATES];
        final Copies copies = new Copies();
        final Windows windows = new Windows();
        private final Tuning tuning = new Tuning();
        private int lettersTaken;
        private int joiningsTaken;
        private int replays;
        private int answers;
        private int lost;
        private int merged;

        Net() {
            for (int i = 0; i < MOST_SENDERS; i++) {
                senders[i] = new Sender();
            }
            for (int j = 0; j < MOST_GATES; j++) {
                gates[j] = new Gate();
            }
        }

        /** All as at first but the numbers of senders and gates and the length of a window. */
        void startAnew() {
            tick = 0;
            copies.count = 0;
            windows.count = 0;
            lettersTaken = 0;
            joiningsTaken = 0;
            replays = 0;
            answers = 0;
            lost = 0;
            merged = 0;
            for (int i = 0; i < MOST_SENDERS; i++) {
                senders[i].becomeNew();
                senders[i].becomeUnknown();
                Arrays.fill(gains[i], FIRST_GAIN);
            }
            for (int j = 0; j < MOST_GATES; j++) {
                gates[j].becomeNew();
            }
        }

        int drawGains(int seed) {
            long x = seed;
            int sum = 0;
            for (int i = 0; i < senderCount; i++) {
                for (int j = 0; j < gateCount; j++) {
                    x = (x * 1103515245L + 12345L) % 2147483648L;
                    gains[i][j] = (int) (x / 65536L % (MOST_GAIN + 1));
                    sum += gains[i][j];
                }
            }
            return sum;
        }

        boolean isFull() {
            return copies.count > COPIES_BEFORE_FULL;
        }

        int marginAt(int i, int j) {
            return gains[i][j] + POWER_STEP * senders[i].power - RATE_STEP * senders[i].rate;
        }

        int sendNext(int i) {
            return spread(i, senders[i].nextLetter());
        }

        int sendLastAgain(int i) {
            return spread(i, senders[i].sentLast);
        }

        private int spread(int i, int letter) {
            int hearing = 0;
            for (int j = 0; j < gateCount; j++) {
                int margin = marginAt(i, j);
                if (margin >= 0) {
                    copies.add(i, letter, j, margin, tick + 1 + gates[j].lag);
                    gates[j].sentOn++;
                    hearing++;
                }
            }
            return hearing;
        }

        /** Answers how many letters and joinings were taken. */
        int passTicks(int m) {
            int taken = 0;
            for (int k = 0; k < m; k++) {
                tick++;
                if (tick % BUDGET_TICKS == 1) {
                    refillBudgets();
                }
                bringCopies();
                taken += closeWindows();
            }
            return taken;
        }

        private void refillBudgets() {
            for (int j = 0; j < MOST_GATES; j++) {
                gates[j].spent = 0;
            }
        }

        private void bringCopies() {
            int kept = 0;
            for (int k = 0; k < copies.count; k++) {
                if (copies.due[k] == tick) {
                    bring(k);
                } else {
                    copies.move(k, kept);
                    kept++;
                }
            }
            copies.count = kept;
        }

        private void bring(int k) {
            int i = copies.sender[k];
            int letter = copies.letter[k];
            int w = windows.find(i, letter);
            if (w != NONE) {
                windows.hear(w, copies.gate[k], copies.margin[k]);
                merged++;
            } else if (letter == JOINING || senders[i].isDue(letter)) {
                windows.open(i, letter, tick);
                windows.hear(windows.count - 1, copies.gate[k], copies.margin[k]);
            } else {
                replays++;
            }
        }

        private int closeWindows() {
            int closed = 0;
            int taken = 0;
            while (closed < windows.count && windows.opened[closed] + windowTicks <= tick) {
                Sender sender = senders[windows.sender[closed]];
                int letter = windows.letter[closed];
                if (letter == JOINING) {
                    takeJoining(closed, sender);
                    taken++;
                } else if (sender.isDue(letter)) {
                    takeLetter(closed, sender);
                    taken++;
                } else {
                    replays++;
                }
                closed++;
            }
            windows.dropFirst(closed);
            return taken;
        }

        private void takeJoining(int w, Sender sender) {
            joiningsTaken++;
            sender.last = COUNTERS - 1;
            sender.noted = 0;
            if (sendAnswer(w, sender)) {
                sender.joined = 1;
                sender.counter = 0;
            }
        }

        private void takeLetter(int w, Sender sender) {
            int best = windows.bestGate(w);
            lettersTaken++;
            gates[best].best++;
            sender.takeLetter(windows.letter[w], windows.heardAt(w, best));
            if (sender.noted < NOTES) {
                return;
            }
            tuning.find(sender.rate, sender.power, sender.greatestMargin());
            if (tuning.rate == sender.rate && tuning.power == sender.power) {
                return;
            }
            sender.noted = 0;
            if (sendAnswer(w, sender) && sender.joined == 1) {
                sender.rate = tuning.rate;
                sender.power = tuning.power;
            }
        }

        /** Lets the best gate that heard it and can pay send an answer; false: none can, it is lost. */
        private boolean sendAnswer(int w, Sender sender) {
            int cost = ANSWER_COST - sender.rate;
            int speaker = NONE;
            int greatest = UNHEARD;
            for (int j = 0; j < gateCount; j++) {
                int heard = windows.heardAt(w, j);
                if (heard > greatest && gates[j].left() >= cost) {
                    speaker = j;
                    greatest = heard;
                }
            }
            if (speaker == NONE) {
                lost++;
                return false;
            }
            gates[speaker].spent += cost;
            gates[speaker].answers++;
            answers++;
            return true;
        }

        int value(int what) {
            switch (what) {
                case 0: return copies.count;
                case 1: return windows.count;
                case 2: return lettersTaken;
                case 3: return joiningsTaken;
                case 4: return replays;
                case 5: return answers;
                case 6: return lost;
                case 7: return merged;
                default: return tick;
            }
        }
    }

    /** The text and the orders read from it. */
    private static final class Text {
        final int[] bytes = new int[TEXT_ROOM];
        int length;
        final int[] orderKind = new int[ORDER_ROOM];
        final int[] orderSender = new int[ORDER_ROOM];
        final int[] orderGate = new int[ORDER_ROOM];
        final int[] orderNumber = new int[ORDER_ROOM];
        int orders;
        /** The next byte to be read; where reading fails it stays at the fault. */
        private int place;

        /** Reads all orders; answers the place of the fault or NO_FAULT. */
        int readOrders(int senderCount, int gateCount) {
            orders = 0;
            place = 0;
            skipBlanks();
            if (place >= length) {
                return length;
            }
            for (int k = 0; k < ORDER_ROOM && place < length; k++) {
                if (!readOrder(senderCount, gateCount)) {
                    return place;
                }
                skipBlanks();
            }
            return NO_FAULT;
        }

        private boolean readOrder(int senderCount, int gateCount) {
            int kind = bytes[place];
            if (!isKind(kind)) {
                return false;
            }
            place++;
            int i = hasSender(kind) ? readFigure(senderCount) : 0;
            if (i == NONE) {
                return false;
            }
            int j = hasGate(kind) ? readFigure(gateCount) : 0;
            if (j == NONE) {
                return false;
            }
            int number = hasNumber(kind) ? readNumber(mostOfNumber(kind)) : 0;
            if (number == NONE || !readEnd()) {
                return false;
            }
            orderKind[orders] = kind;
            orderSender[orders] = i;
            orderGate[orders] = j;
            orderNumber[orders] = number;
            orders++;
            return true;
        }

        private static boolean isKind(int kind) {
            return hasSender(kind) || hasGate(kind) || hasNumber(kind);
        }

        private static boolean hasSender(int kind) {
            return kind == 's' || kind == 'z' || kind == 'r' || kind == 'g';
        }

        private static boolean hasGate(int kind) {
            return kind == 'g' || kind == 'b' || kind == 'l';
        }

        private static boolean hasNumber(int kind) {
            return kind == '+' || hasGate(kind);
        }

        private static int mostOfNumber(int kind) {
            switch (kind) {
                case 'g': return MOST_GAIN;
                case 'b': return MOST_BUDGET;
                case 'l': return MOST_LAG;
                default: return MOST_TICKS;
            }
        }

        private void skipBlanks() {
            while (place < length && bytes[place] == ' ') {
                place++;
            }
        }

        private boolean isFigureNext() {
            return place < length && bytes[place] >= '0' && bytes[place] <= '9';
        }

        private int readFigure(int bound) {
            skipBlanks();
            if (!isFigureNext() || bytes[place] - '0' >= bound) {
                return NONE;
            }
            int figure = bytes[place] - '0';
            place++;
            return figure;
        }

        private int readNumber(int most) {
            skipBlanks();
            int first = place;
            int number = 0;
            while (isFigureNext() && place < first + 3) {
                number = number * 10 + bytes[place] - '0';
                place++;
            }
            int figures = place - first;
            if (figures == 0 || figures > 2 || number > most) {
                place = first;
                return NONE;
            }
            return number;
        }

        private boolean readEnd() {
            skipBlanks();
            if (place >= length || bytes[place] != ';') {
                return false;
            }
            place++;
            return true;
        }
    }
}
