import java.util.Arrays;

/** Water led over hoses from pump to pump; README.md tells how to use it. */
public final class HoseSpans {
    public static final int NONE = -1000001, BAD = -1000002, NO = -1000003, FULL = -1000004;

    private static final int MOST_SPANS = 10, MOST_NODES = 11;
    private static final int MOST_FLOW = 30, MOST_TANKS = 20, MOST_MINUTES = 99;
    private static final int MOST_STATES = 5;
    private static final int MOST_BYTES = 120;

    /** What is told of a SPAN, as of() numbers it. */
    private static final int LENGTHS = 0, SORT = 1, RISE = 2, TWIN = 3, BURST = 4, FACTS = 5;

    private static final int[] HARD = {80, 20, 8, 2};
    private static final int[] STANDS = {100, 120, 150, 180};

    /** The SETTINGS, as sets() numbers them. */
    private static final int FLOW = 0, SOURCE = 1, NEED = 2, OUT = 3, LEAST = 4, SPARE = 5, SETTINGS = 6;
    private static final int[] SETTING_AT_FIRST = {10, 20, 30, 100, 5, 0};
    private static final int[] SETTING_LOWEST = {1, 0, 0, 20, 0, 0};
    private static final int[] SETTING_HIGHEST = {30, 100, 100, 180, 20, 99};

    /** How a RUN fails, as run() numbers it. */
    private static final int MET = 0, BY_BURST = 1, BY_INTAKE = 2, BY_LOSS = 3, BY_STANDS = 4, BY_NEED = 5;

    /** A set of PUMPS as one number that is the less, the better the set: how many above its bits. */
    private static final int ONE_PUMP = 1 << MOST_NODES, NO_SET = 1 << 30;

    /** An ORDER has two bytes or more, and four numbers or fewer. */
    private static final int MOST_ORDERS = 60, MOST_NUMBERS = 4, MOST_FIGURES = 3;

    private final Line line = new Line();
    private final Line before = new Line();
    private final Line[] states = new Line[MOST_STATES];
    private int nextState = 0;
    private int statesLeft = 0;
    private int refusedBad = 0;
    private int refusedNo = 0;
    private int refusedFull = 0;
    private final Text text = new Text();
    private final Run water = new Run();
    private final PumpSearch search = new PumpSearch();

    public HoseSpans() {
        for (int i = 0; i < MOST_STATES; i++) {
            states[i] = new Line();
        }
    }

    // ---- what is told in

    public int span(int m, int s, int r, int t) {
        keepBefore();
        return settled(line.addSpan(m, s, r, t));
    }

    public int cuts() {
        keepBefore();
        return settled(line.cutLast());
    }

    public int sets(int k, int v) {
        keepBefore();
        return settled(line.changeSetting(k, v));
    }

    public int pumps(int i) {
        keepBefore();
        return settled(line.turnPump(i));
    }

    public int bursts(int i) {
        keepBefore();
        return settled(line.burstSpan(i));
    }

    public int mends(int i) {
        keepBefore();
        return settled(line.mendSpan(i));
    }

    public int lays() {
        int set = search.bestSet(line, line.settings[FLOW]);
        if (set == NO_SET) {
            return counted(NO);
        }
        keepBefore();
        line.pumps = bitsOf(set);
        return settled(sizeOf(set));
    }

    // ---- runs

    public int of(int i, int what) {
        if (!line.hasSpan(i) || !within(what, 0, FACTS - 1)) {
            return counted(BAD);
        }
        return line.fact(i, what);
    }

    public int loss(int i, int q) {
        if (!line.hasSpan(i) || !within(q, 1, MOST_FLOW)) {
            return counted(BAD);
        }
        return line.lossBy(i, q);
    }

    public int node(int i, int what) {
        if (!line.hasNode(i) || !within(what, 0, 1)) {
            return counted(BAD);
        }
        water.follow(line, line.settings[FLOW]);
        return what == 0 ? water.in[i] : water.behind[i];
    }

    public int run(int what) {
        if (!within(what, 0, 2)) {
            return counted(BAD);
        }
        water.follow(line, line.settings[FLOW]);
        switch (what) {
            case 0: return water.where;
            case 1: return water.how;
            default: return water.behind[line.spans];
        }
    }

    public int fewest(int q, int what) {
        if (!within(q, 1, MOST_FLOW) || !within(what, 0, 1)) {
            return counted(BAD);
        }
        int set = search.bestSet(line, q);
        if (set == NO_SET) {
            return NONE;
        }
        return what == 0 ? sizeOf(set) : bitsOf(set);
    }

    public int most() {
        // Less FLOW is not always met where more is: by less loss p can be above what a SORT stands.
        for (int q = MOST_FLOW; q >= 1; q--) {
            water.follow(line, q);
            if (water.how == MET) {
                return q;
            }
        }
        return NONE;
    }

    public int count(int what) {
        if (!within(what, 0, 4 + SETTINGS)) {
            return counted(BAD);
        }
        switch (what) {
            case 0: return Integer.bitCount(line.pumps);
            case 1: return line.pumps;
            case 2: return line.spans;
            case 3: return line.burstSpans();
            case 4 + SETTINGS: return line.allLengths();
            default: return line.settings[what - 4];
        }
    }

    // ---- tanks

    public int shuttle(int k, int v, int a, int d, int e) {
        if (!within(k, 1, MOST_TANKS) || !isTrip(v, a, d, e)) {
            return counted(BAD);
        }
        return broughtInHour(k, v, a, d, e);
    }

    public int tanks(int w, int v, int a, int d, int e) {
        if (!within(w, 1, 9999) || !isTrip(v, a, d, e)) {
            return counted(BAD);
        }
        for (int k = 1; k <= MOST_TANKS; k++) {
            if (broughtInHour(k, v, a, d, e) >= w) {
                return k;
            }
        }
        return NONE;
    }

    // ---- texts

    public int type(int c) {
        if (!within(c, 0, 127)) {
            return counted(BAD);
        }
        if (text.length >= MOST_BYTES) {
            return counted(FULL);
        }
        text.put(c);
        return text.length;
    }

    public int clear() {
        int had = text.length;
        text.length = 0;
        return had;
    }

    public int does() {
        if (!text.isRead()) {
            return -10 - text.place;
        }
        keepBefore();
        for (int n = 0; n < text.orders; n++) {
            if (isRefusal(obeyed(n))) {
                line.copyFrom(before);
                return -1000 - n;
            }
        }
        return settled(text.orders);
    }

    public int back() {
        if (statesLeft == 0) {
            return counted(NO);
        }
        nextState = (nextState + MOST_STATES - 1) % MOST_STATES;
        statesLeft--;
        line.copyFrom(states[nextState]);
        return statesLeft;
    }

    public int told(int what) {
        switch (what) {
            case 0: return refusedBad;
            case 1: return refusedNo;
            case 2: return refusedFull;
            case 3: return text.length;
            case 4: return statesLeft;
            default: return counted(BAD);
        }
    }

    public long digest() {
        int flow = line.settings[FLOW];
        long h = 2920;
        for (int what = 0; what <= 4; what++) {
            h = 31 * h + told(what);
        }
        for (int what = 0; what <= 4 + SETTINGS; what++) {
            h = 31 * h + count(what);
        }
        for (int i = 0; i < line.spans; i++) {
            for (int what = 0; what < FACTS; what++) {
                h = 31 * h + of(i, what);
            }
            h = 31 * h + loss(i, flow);
        }
        for (int i = 0; i <= line.spans; i++) {
            h = 31 * h + node(i, 0);
            h = 31 * h + node(i, 1);
        }
        for (int what = 0; what <= 2; what++) {
            h = 31 * h + run(what);
        }
        h = 31 * h + fewest(flow, 0);
        h = 31 * h + fewest(flow, 1);
        return 31 * h + most();
    }

    // ---- refusals and STATES

    private static boolean within(int v, int lowest, int highest) {
        return v >= lowest && v <= highest;
    }

    private static boolean isRefusal(int answer) {
        return answer == BAD || answer == NO || answer == FULL;
    }

    private int counted(int refusal) {
        switch (refusal) {
            case BAD: refusedBad++; break;
            case NO: refusedNo++; break;
            default: refusedFull++; break;
        }
        return refusal;
    }

    private void keepBefore() {
        before.copyFrom(line);
    }

    /** Ends a call told S: a refusal counts, another answer leaves what was kept before as a STATE. */
    private int settled(int answer) {
        if (isRefusal(answer)) {
            return counted(answer);
        }
        states[nextState].copyFrom(before);
        nextState = (nextState + 1) % MOST_STATES;
        statesLeft = Math.min(statesLeft + 1, MOST_STATES);
        return answer;
    }

    /** What the call of the ORDER n answers; neither a refusal nor a STATE counts here. */
    private int obeyed(int n) {
        int first = text.number(n, 0);
        int second = text.number(n, 1);
        switch (text.letters[n]) {
            case 'h': return line.addSpan(first, second, text.number(n, 2), text.number(n, 3));
            case 'k': return line.changeSetting(first, second);
            case 'p': return line.turnPump(first);
            case 'x': return line.burstSpan(first);
            case 'm': return line.mendSpan(first);
            default: return line.cutLast();
        }
    }

    // ---- sets of PUMPS, tanks

    private static int sizeOf(int set) {
        return set / ONE_PUMP;
    }

    private static int bitsOf(int set) {
        return set % ONE_PUMP;
    }

    private static boolean isTrip(int v, int a, int d, int e) {
        return within(v, 1, 99) && within(a, 1, MOST_MINUTES) && within(d, 1, MOST_MINUTES)
            && within(e, 1, MOST_MINUTES);
    }

    private static int broughtInHour(int k, int v, int a, int d, int e) {
        return Math.min(60 * k * v / (a + 2 * d + e), 60 * v / a);
    }

    /** All that a STATE holds: SPANS, PUMPS, SETTINGS. A method that answers a refusal changes nothing. */
    private static final class Line {
        int spans = 0;
        int pumps = 0;
        final int[] facts = new int[MOST_SPANS * FACTS];
        final int[] settings = new int[SETTINGS];

        Line() {
            System.arraycopy(SETTING_AT_FIRST, 0, settings, 0, SETTINGS);
        }

        void copyFrom(Line other) {
            spans = other.spans;
            pumps = other.pumps;
            System.arraycopy(other.facts, 0, facts, 0, MOST_SPANS * FACTS);
            System.arraycopy(other.settings, 0, settings, 0, SETTINGS);
        }

        boolean hasSpan(int i) {
            return within(i, 0, spans - 1);
        }

        boolean hasNode(int i) {
            return within(i, 0, spans);
        }

        boolean hasPump(int i) {
            return (pumps & (1 << i)) != 0;
        }

        int fact(int i, int what) {
            return facts[i * FACTS + what];
        }

        void setFact(int i, int what, int v) {
            facts[i * FACTS + what] = v;
        }

        int addSpan(int m, int s, int r, int t) {
            if (!within(m, 1, 30) || !within(s, 0, 3) || !within(r, -50, 50) || !within(t, 0, 1)) {
                return BAD;
            }
            if (spans >= MOST_SPANS) {
                return FULL;
            }
            setFact(spans, LENGTHS, m);
            setFact(spans, SORT, s);
            setFact(spans, RISE, r);
            setFact(spans, TWIN, t);
            setFact(spans, BURST, 0);
            spans++;
            return spans - 1;
        }

        int cutLast() {
            if (spans == 0) {
                return NO;
            }
            pumps &= ~(1 << spans);
            spans--;
            return spans;
        }

        int changeSetting(int k, int v) {
            if (!within(k, 0, SETTINGS - 1) || !within(v, SETTING_LOWEST[k], SETTING_HIGHEST[k])) {
                return BAD;
            }
            int was = settings[k];
            settings[k] = v;
            return was;
        }

        int turnPump(int i) {
            if (!hasNode(i)) {
                return BAD;
            }
            pumps ^= 1 << i;
            return Integer.bitCount(pumps);
        }

        int burstSpan(int i) {
            if (!hasSpan(i)) {
                return BAD;
            }
            int whole = 1 - fact(i, BURST);
            setFact(i, BURST, 1);
            return whole;
        }

        int mendSpan(int i) {
            if (!hasSpan(i)) {
                return BAD;
            }
            if (fact(i, BURST) == 0 || settings[SPARE] < hosesOf(i)) {
                return NO;
            }
            setFact(i, BURST, 0);
            settings[SPARE] -= hosesOf(i);
            return settings[SPARE];
        }

        int hosesOf(int i) {
            return fact(i, TWIN) == 1 ? 2 * fact(i, LENGTHS) : fact(i, LENGTHS);
        }

        int allLengths() {
            int sum = 0;
            for (int i = 0; i < spans; i++) {
                sum += hosesOf(i);
            }
            return sum;
        }

        int burstSpans() {
            int sum = 0;
            for (int i = 0; i < spans; i++) {
                sum += fact(i, BURST);
            }
            return sum;
        }

        int lossBy(int i, int flow) {
            int f = fact(i, TWIN) == 1 ? (flow + 1) / 2 : flow;
            return fact(i, LENGTHS) * HARD[fact(i, SORT)] * f * f / 100 + fact(i, RISE);
        }

        /** How a RUN fails that comes with p to the beginning of SPAN i, or MET. */
        int failureOf(int i, int p, int flow) {
            if (fact(i, BURST) == 1) {
                return BY_BURST;
            }
            if (p > STANDS[fact(i, SORT)]) {
                return BY_STANDS;
            }
            return p - lossBy(i, flow) < 0 ? BY_LOSS : MET;
        }
    }

    /** A RUN with the PUMPS of a line: where and how it fails, and p at every NODE that it gets to. */
    private static final class Run {
        int where = NONE;
        int how = MET;
        final int[] in = new int[MOST_NODES];
        final int[] behind = new int[MOST_NODES];

        void follow(Line line, int flow) {
            Arrays.fill(in, NONE);
            Arrays.fill(behind, NONE);
            where = NONE;
            how = MET;
            int p = line.settings[SOURCE];
            for (int i = 0; i <= line.spans && how == MET; i++) {
                in[i] = p;
                how = failureAt(line, i, p, flow);
                if (how != MET) {
                    where = i;
                } else if (i < line.spans) {
                    p = behind[i] - line.lossBy(i, flow);
                }
            }
        }

        private int failureAt(Line line, int i, int p, int flow) {
            boolean pump = line.hasPump(i);
            if (pump && p < line.settings[LEAST]) {
                return BY_INTAKE;
            }
            int onward = pump ? Math.max(p, line.settings[OUT]) : p;
            behind[i] = onward;
            if (i < line.spans) {
                return line.failureOf(i, onward, flow);
            }
            return onward < line.settings[NEED] ? BY_NEED : MET;
        }
    }

    /**
     * Finds FEWEST. A PUMP that does not raise p can be left out, so each one in FEWEST has OUT behind it:
     * what comes behind the last PUMP of a set does not hang on those ahead, and for each NODE the best set
     * that ends there is enough.
     */
    private static final class PumpSearch {
        final int[] best = new int[MOST_NODES];

        /** FEWEST as one number, or NO_SET. */
        int bestSet(Line line, int flow) {
            Arrays.fill(best, NO_SET);
            leadOn(line, flow, 0, line.settings[SOURCE], 0);
            for (int i = 0; i < line.spans; i++) {
                if (best[i] != NO_SET) {
                    leadOn(line, flow, i, line.settings[OUT], best[i]);
                }
            }
            return best[line.spans];
        }

        /** Leads p from a NODE on without a further PUMP: each NODE got to may have the next one. */
        private void leadOn(Line line, int flow, int from, int start, int set) {
            int p = start;
            for (int i = from; i < line.spans; i++) {
                if (p >= line.settings[LEAST] && p < line.settings[OUT]) {
                    best[i] = Math.min(best[i], set + ONE_PUMP + (1 << i));
                }
                if (line.failureOf(i, p, flow) != MET) {
                    return;
                }
                p -= line.lossBy(i, flow);
            }
            if (p >= line.settings[NEED]) {
                best[line.spans] = Math.min(best[line.spans], set);
            }
        }
    }

    /** THE TEXT, and the ORDERS read out of it: a letter and its numbers each. */
    private static final class Text {
        int length = 0;
        int orders = 0;
        int place = 0;
        final byte[] letters = new byte[MOST_ORDERS];
        private final byte[] bytes = new byte[MOST_BYTES];
        private final int[] numbers = new int[MOST_ORDERS * MOST_NUMBERS];

        void put(int c) {
            bytes[length] = (byte) c;
            length++;
        }

        int number(int n, int which) {
            return numbers[n * MOST_NUMBERS + which];
        }

        /** Reads it whole; where it answers false, the FAULT is at the place. */
        boolean isRead() {
            orders = 0;
            place = 0;
            skipBlanks();
            while (place < length && orders < MOST_ORDERS) {
                if (!takesOrder()) {
                    return false;
                }
                orders++;
                skipBlanks();
            }
            return orders > 0;
        }

        private boolean takesOrder() {
            int letter = byteHere();
            int wanted = numbersOf(letter);
            if (wanted < 0) {
                return false;
            }
            letters[orders] = (byte) letter;
            place++;
            for (int which = 0; which < wanted; which++) {
                skipBlanks();
                if (!takesNumber(which, letter == 'h' && which == 2)) {
                    return false;
                }
            }
            skipBlanks();
            if (byteHere() != ';') {
                return false;
            }
            place++;
            return true;
        }

        private static int numbersOf(int letter) {
            switch (letter) {
                case 'h': return 4;
                case 'k': return 2;
                case 'p': case 'x': case 'm': return 1;
                case 'c': return 0;
                default: return -1;
            }
        }

        private boolean takesNumber(int which, boolean mayBeBelow0) {
            boolean below0 = mayBeBelow0 && byteHere() == '-';
            if (below0) {
                place++;
            }
            if (!isFigureHere()) {
                return false;
            }
            int v = 0;
            for (int figures = 0; figures < MOST_FIGURES && isFigureHere(); figures++) {
                v = 10 * v + byteHere() - '0';
                place++;
            }
            numbers[orders * MOST_NUMBERS + which] = below0 ? -v : v;
            return !isFigureHere();
        }

        private boolean isFigureHere() {
            return within(byteHere(), '0', '9');
        }

        /** -1 behind the end, which is no byte that could stand anywhere. */
        private int byteHere() {
            return place < length ? bytes[place] : -1;
        }

        private void skipBlanks() {
            while (place < length && bytes[place] == ' ') {
                place++;
            }
        }
    }
}
