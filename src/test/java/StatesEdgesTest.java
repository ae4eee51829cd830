/**
 * What the document says of STATES and of refused calls, and the edges of the calls that tell in: what is refused
 * and by what, what a refused call leaves as it was, how many STATES there can be.
 */
public final class StatesEdgesTest {
    private static final int BAD = -1000002, NO = -1000003, FULL = -1000004;
    private static final int MIN = Integer.MIN_VALUE, MAX = Integer.MAX_VALUE;
    private static final int NEED = 2, SPARE = 5;
    private static final Due DUE = new Due("StatesEdgesTest");

    private interface Call {
        long on(Hoses x);
    }

    private record Named(String name, Call call) {
    }

    private static final Named[] BADS = {
        named("span", x -> x.span(0, 0, 0, 0)), named("sets", x -> x.sets(6, 0)), named("pumps", x -> x.pumps(11)),
        named("bursts", x -> x.bursts(10)), named("mends", x -> x.mends(10)), named("of i", x -> x.of(10, 0)),
        named("of what", x -> x.of(0, 5)), named("loss i", x -> x.loss(10, 1)), named("loss q", x -> x.loss(0, 31)),
        named("node i", x -> x.node(11, 0)), named("node what", x -> x.node(0, 2)), named("run", x -> x.run(3)),
        named("fewest q", x -> x.fewest(31, 0)), named("fewest what", x -> x.fewest(1, 2)),
        named("count", x -> x.count(11)), named("shuttle", x -> x.shuttle(21, 1, 1, 1, 1)),
        named("tanks", x -> x.tanks(10000, 1, 1, 1, 1)), named("type", x -> x.type(128)), named("told", x -> x.told(5)),
        named("all numbers", x -> x.span(MIN, MAX, MIN, MAX)), named("both numbers", x -> x.fewest(MIN, MAX))};

    /** Told S, and taken by line(): each leaves a STATE. */
    private static final Named[] TELLING = {
        named("span", x -> x.span(1, 2, 3, 1)), named("cuts", Hoses::cuts), named("sets", x -> x.sets(1, 99)),
        named("sets to the same", x -> x.sets(1, 20)), named("pumps on", x -> x.pumps(0)),
        named("pumps off", x -> x.pumps(2)), named("pumps at the last", x -> x.pumps(3)),
        named("bursts", x -> x.bursts(0)), named("bursts again", x -> x.bursts(1)), named("mends", x -> x.mends(1)),
        named("lays", Hoses::lays), named("does", Hoses::does)};

    /** Not told S. */
    private static final Named[] ASKING = {
        named("of", x -> x.of(0, 0)), named("loss", x -> x.loss(0, 1)), named("node", x -> x.node(0, 0)),
        named("run", x -> x.run(0)), named("fewest", x -> x.fewest(1, 1)), named("most", Hoses::most),
        named("count", x -> x.count(0)), named("shuttle", x -> x.shuttle(1, 1, 1, 1, 1)),
        named("tanks", x -> x.tanks(1, 1, 1, 1, 1)), named("told", x -> x.told(0)), named("digest", Hoses::digest)};

    private StatesEdgesTest() {
    }

    public static void main(String[] args) {
        firstOfBadAndFull();
        firstOfBadAndNo();
        eachBad();
        eachNo();
        eachFull();
        howOften();
        refusedLeavesThePast();
        tellingLeavesAState();
        askingLeavesNone();
        textLeavesNone();
        nothingOther();
        fiveAtMost();
        olderOnesLost();
        oneStateForAll();
        noStateByDoes();
        allButTheText();
        allButHowOften();
        backAndOn();
        backOfNone();
        tenSpans();
        cutsWithThePump();
        cutsOfNone();
        spanAnew();
        pumpsComeAndGo();
        burstsAgain();
        mendsBySpare();
        mendsOfATwin();
        lengthsOfAll();
        digestOfEach();
        digestAnswers();
        objectsByThemselves();
        DUE.end();
    }

    private static Named named(String name, Call call) {
        return new Named(name, call);
    }

    private static void is(String call, long got, long want) {
        DUE.is(call, got, want);
    }

    private static void tolds(Hoses x, int bad, int no, int full) {
        is("told(0)", x.told(0), bad);
        is("told(1)", x.told(1), no);
        is("told(2)", x.told(2), full);
    }

    /** Three SPANS of which one is BURST, a PUMP at NODE 2, SPARE 9, NEED 0, THE TEXT "p0;", and one STATE. */
    private static Hoses line() {
        Hoses x = new Hoses();
        x.does("h2 3-1 0;h1 2 3 1;h4 3 0 0;k0 1;k2 0;k5 9;x1;p2;");
        x.write("p0;");
        return x;
    }

    /** As line(), but without the BURST one: what can be laid. */
    private static Hoses wholeLine() {
        Hoses x = line();
        x.mends(1);
        return x;
    }

    private static Hoses full() {
        Hoses x = Hoses.level(10);
        x.write("p0;".repeat(40));
        return x;
    }

    private static void firstOfBadAndFull() {
        DUE.part("refused, the first of BAD, FULL: span");
        Hoses x = Hoses.level(10);
        int[][] bad = {{0, 0, 0, 0}, {31, 0, 0, 0}, {1, -1, 0, 0}, {1, 4, 0, 0}, {1, 0, -51, 0}, {1, 0, 51, 0},
            {1, 0, 0, -1}, {1, 0, 0, 2}};
        for (int[] b : bad) {
            is("span", x.span(b[0], b[1], b[2], b[3]), BAD);
        }
        tolds(x, 8, 0, 0);
        is("span", x.span(1, 0, -50, 0), FULL);
        is("span", x.span(30, 3, 50, 1), FULL);
        tolds(x, 8, 0, 2);
        DUE.part("refused, the first of BAD, FULL: type");
        Hoses y = full();
        is("type(-1)", y.type(-1), BAD);
        is("type(128)", y.type(128), BAD);
        tolds(y, 2, 0, 0);
        is("type(0)", y.type(0), FULL);
        is("type(127)", y.type(127), FULL);
        tolds(y, 2, 0, 2);
    }

    private static void firstOfBadAndNo() {
        DUE.part("refused, the first of BAD, NO: mends");
        Hoses x = Hoses.level(1);
        is("mends(0) of a WHOLE one", x.mends(0), NO);
        is("mends(1)", x.mends(1), BAD);
        is("mends(-1)", x.mends(-1), BAD);
        tolds(x, 2, 1, 0);
        is("mends(0) of none", new Hoses().mends(0), BAD);
    }

    /** All of line() is as it was behind a refused call, back() too brings what it would have brought. */
    private static void untouched(String name, Hoses x, Call call, int answer) {
        int states = x.told(4);
        int bytes = x.told(3);
        int[] often = {x.told(0), x.told(1), x.told(2)};
        String was = x.seen();
        is(name, call.on(x), answer);
        tolds(x, often[0] + (answer == BAD ? 1 : 0), often[1] + (answer == NO ? 1 : 0), often[2] + (answer == FULL ? 1 : 0));
        is("told(3)", x.told(3), bytes);
        is("told(4)", x.told(4), states);
        DUE.holds("all is as it was", x.seen().equals(was));
    }

    private static void eachBad() {
        for (Named bad : BADS) {
            DUE.part("BAD, " + bad.name());
            Hoses x = line();
            untouched(bad.name(), x, bad.call(), BAD);
            is("does() of THE TEXT as it was", x.does(), 1);
            is("count(1)", x.count(1), 5);
            untouched(bad.name() + " of a new one", new Hoses(), bad.call(), BAD);
            untouched(bad.name() + " of a full one", full(), bad.call(), BAD);
        }
    }

    private static void eachNo() {
        DUE.part("NO");
        Hoses x = new Hoses();
        untouched("cuts() of none", x, Hoses::cuts, NO);
        untouched("back() of none", x, Hoses::back, NO);
        untouched("lays() without a set", x, Hoses::lays, NO);
        untouched("lays() past a BURST one", line(), Hoses::lays, NO);
        untouched("mends() of a WHOLE one", line(), y -> y.mends(0), NO);
        Hoses less = line();
        less.sets(SPARE, 1);
        untouched("mends() by less of SPARE", less, y -> y.mends(1), NO);
    }

    private static void eachFull() {
        DUE.part("FULL");
        untouched("span, an eleventh", full(), x -> x.span(1, 0, 0, 0), FULL);
        untouched("type, a 121st", full(), x -> x.type('c'), FULL);
    }

    private static void howOften() {
        DUE.part("how often refused");
        Hoses x = new Hoses();
        for (int n = 1; n <= 240; n++) {
            x.told(5);
        }
        for (int n = 1; n <= 150; n++) {
            x.cuts();
        }
        tolds(x, 240, 150, 0);
        Hoses many = Hoses.level(10);
        for (int n = 1; n <= 400; n++) {
            many.span(1, 0, 0, 0);
        }
        tolds(many, 0, 0, 400);
        for (Named bad : BADS) {
            Hoses y = line();
            for (int n = 1; n <= 9; n++) {
                bad.call().on(y);
                is(bad.name() + ", told(0)", y.told(0), n);
            }
            tolds(y, 9, 0, 0);
        }
    }

    private static void refusedLeavesThePast() {
        DUE.part("a refused call leaves what back() brings");
        for (Named bad : BADS) {
            Hoses x = new Hoses();
            x.sets(SPARE, 7);
            x.sets(SPARE, 8);
            bad.call().on(x);
            x.cuts();
            is("back() behind " + bad.name(), x.back(), 1);
            is("count(9)", x.count(9), 7);
            bad.call().on(x);
            x.mends(0);
            is("back() behind " + bad.name(), x.back(), 0);
            is("count(9)", x.count(9), 0);
        }
    }

    private static void tellingLeavesAState() {
        for (Named each : TELLING) {
            DUE.part("S: " + each.name());
            Hoses x = each.name().equals("lays") ? wholeLine() : line();
            int states = x.told(4);
            String was = x.seen();
            long answer = each.call().on(x);
            DUE.holds("not refused: " + answer, answer != BAD && answer != NO && answer != FULL);
            is("told(4)", x.told(4), states + 1);
            is("back()", x.back(), states);
            DUE.holds("all is as it was", x.seen().equals(was));
            is("told(4)", x.told(4), states);
        }
    }

    private static void askingLeavesNone() {
        for (Named each : ASKING) {
            DUE.part("not S: " + each.name());
            Hoses x = line();
            String was = x.seen();
            int states = x.told(4);
            each.call().on(x);
            is("told(4)", x.told(4), states);
            DUE.holds("all is as it was", x.seen().equals(was));
            tolds(x, 0, 0, 0);
            each.call().on(new Hoses());
        }
    }

    private static void textLeavesNone() {
        DUE.part("not S: type, clear, back");
        Hoses x = line();
        String was = x.seen();
        int states = x.told(4);
        is("type('c')", x.type('c'), 4);
        is("told(4)", x.told(4), states);
        is("clear()", x.clear(), 4);
        is("told(4)", x.told(4), states);
        is("clear()", x.clear(), 0);
        is("told(4)", x.told(4), states);
        DUE.holds("all is as it was", x.seen().equals(was));
        is("back()", x.back(), states - 1);
        is("told(4)", x.told(4), states - 1);
    }

    private static void nothingOther() {
        DUE.part("leaves one, also if nothing becomes other by it");
        Hoses x = Hoses.level(1);
        x.sets(NEED, 0);
        x.bursts(0);
        is("told(4)", x.told(4), 3);
        is("bursts(0) again", x.bursts(0), 0);
        is("told(4)", x.told(4), 4);
        is("back()", x.back(), 3);
        is("of(0, 4): BURST still", x.of(0, 4), 1);
        is("back()", x.back(), 2);
        is("of(0, 4): WHOLE", x.of(0, 4), 0);
        is("sets to the same", x.sets(NEED, 0), 0);
        is("told(4)", x.told(4), 3);
        is("lays() of none, none there", x.lays(), 0);
        is("told(4)", x.told(4), 4);
        is("does() to and fro", x.does("p0;p0;"), 2);
        is("told(4)", x.told(4), 5);
        is("back()", x.back(), 4);
        is("back()", x.back(), 3);
        is("back()", x.back(), 2);
        is("count(6)", x.count(6), 0);
        is("back()", x.back(), 1);
        is("count(6)", x.count(6), 30);
    }

    private static void fiveAtMost() {
        DUE.part("5 at most");
        for (int n = 0; n <= 12; n++) {
            Hoses x = new Hoses();
            for (int v = 1; v <= n; v++) {
                is("told(4)", x.told(4), Math.min(v - 1, 5));
                x.sets(SPARE, v);
            }
            int states = Math.min(n, 5);
            is("told(4)", x.told(4), states);
            for (int left = states - 1; left >= 0; left--) {
                is("back()", x.back(), left);
                is("told(4)", x.told(4), left);
                is("count(9)", x.count(9), n - states + left);
            }
            is("back()", x.back(), NO);
            is("count(9)", x.count(9), n - states);
            tolds(x, 0, 1, 0);
        }
    }

    private static void olderOnesLost() {
        DUE.part("older ones lost");
        for (int backs = 0; backs <= 5; backs++) {
            Hoses x = new Hoses();
            for (int v = 1; v <= 7; v++) {
                x.sets(SPARE, v);
            }
            for (int n = 0; n < backs; n++) {
                x.back();
            }
            for (int v = 1; v <= 3; v++) {
                is("sets", x.sets(SPARE, 50 + v), v == 1 ? 7 - backs : 49 + v);
            }
            int states = Math.min(5, 5 - backs + 3);
            is("told(4)", x.told(4), states);
            for (int n = 1; n <= states; n++) {
                is("back()", x.back(), states - n);
                is("count(9)", x.count(9), n < 3 ? 53 - n : 7 - backs - (n - 3));
            }
            is("back()", x.back(), NO);
        }
    }

    private static void oneStateForAll() {
        DUE.part("does: one STATE for all");
        Hoses x = new Hoses();
        String was = x.seen();
        is("does()", x.does("h1 2 3 1;h4 1-6 0;p0;p2;x1;k5 20;m1;x0;k0 3;c;"), 10);
        is("told(4)", x.told(4), 1);
        is("back()", x.back(), 0);
        DUE.holds("all is as it was", x.seen().equals(was));
        for (int n = 1; n <= 7; n++) {
            is("does()", x.does("p0;k5 " + n + ";"), 2);
            is("told(4)", x.told(4), Math.min(n, 5));
        }
        is("back()", x.back(), 4);
        is("count(9)", x.count(9), 6);
        is("count(0)", x.count(0), 0);
    }

    private static void noStateByDoes() {
        DUE.part("does: no S by a FAULT, nor by an ORDER that ends all");
        for (String text : new String[] {"", " ", "q", "p0;p", "p0;p9;", "p9;", "k5 1;k6 1;", "h1 0 0 0;h1 0 0 9;"}) {
            Hoses x = new Hoses();
            x.sets(SPARE, 7);
            x.sets(SPARE, 8);
            String was = x.seen();
            DUE.holds("does() of " + text + " does nothing", x.does(text) < 0);
            is("told(4)", x.told(4), 2);
            DUE.holds("all is as it was", x.seen().equals(was));
            is("back()", x.back(), 1);
            is("count(9)", x.count(9), 7);
            is("back()", x.back(), 0);
            is("count(9)", x.count(9), 0);
        }
    }

    private static void allButTheText() {
        DUE.part("to go back to (all but THE TEXT)");
        Hoses x = new Hoses();
        x.write("p0;");
        x.sets(SPARE, 7);
        x.type(' ');
        x.sets(SPARE, 8);
        x.write("k1 55;");
        is("back()", x.back(), 1);
        is("told(3)", x.told(3), 6);
        is("back()", x.back(), 0);
        is("told(3)", x.told(3), 6);
        is("does()", x.does(), 1);
        is("count(5)", x.count(5), 55);
        is("clear()", x.clear(), 6);
        is("back()", x.back(), 0);
        is("told(3)", x.told(3), 0);
    }

    private static void allButHowOften() {
        DUE.part("to go back to (all but how often refused)");
        Hoses x = Hoses.level(10);
        x.span(1, 0, 0, 0);
        x.told(5);
        x.mends(0);
        x.sets(SPARE, 7);
        x.span(1, 0, 0, 0);
        x.told(5);
        x.told(5);
        x.mends(0);
        is("back()", x.back(), 4);
        tolds(x, 2 + 1, 2, 2);
        is("back()", x.back(), 3);
        is("back()", x.back(), 2);
        is("back()", x.back(), 1);
        is("back()", x.back(), 0);
        is("back()", x.back(), NO);
        tolds(x, 3, 3, 2);
    }

    private static void backAndOn() {
        DUE.part("a STATE back: how many can be yet");
        Hoses x = new Hoses();
        x.span(1, 1, 1, 1);
        x.span(2, 2, 2, 0);
        is("back()", x.back(), 1);
        is("span anew: the same number", x.span(3, 3, 3, 0), 1);
        is("of(1, 0)", x.of(1, 0), 3);
        is("back()", x.back(), 1);
        is("of(1, 0)", x.of(1, 0), BAD);
        is("of(0, 0)", x.of(0, 0), 1);
        is("back()", x.back(), 0);
        is("count(2)", x.count(2), 0);
        for (int n = 0; n < 30; n++) {
            is("sets", x.sets(SPARE, n + 1), 0);
            is("told(4)", x.told(4), 1);
            is("back()", x.back(), 0);
            is("count(9)", x.count(9), 0);
        }
        is("back()", x.back(), NO);
    }

    private static void backOfNone() {
        DUE.part("back: NO: none");
        Hoses x = new Hoses();
        is("back() at first", x.back(), NO);
        x.write("p0;");
        is("back() behind type()", x.back(), NO);
        is("does()", x.does(), 1);
        is("back()", x.back(), 0);
        is("back()", x.back(), NO);
        tolds(x, 0, 3, 0);
        is("count(0)", x.count(0), 0);
    }

    private static void tenSpans() {
        DUE.part("SPANS 0 on, as they come (never more than 10)");
        Hoses x = new Hoses();
        for (int n = 0; n < 10; n++) {
            is("span", x.span(n + 1, n % 4, n - 5, n % 2), n);
            is("count(2)", x.count(2), n + 1);
        }
        is("span", x.span(1, 0, 0, 0), FULL);
        for (int n = 0; n < 10; n++) {
            is("of(n, 0)", x.of(n, 0), n + 1);
            is("of(n, 1)", x.of(n, 1), n % 4);
            is("of(n, 2)", x.of(n, 2), n - 5);
            is("of(n, 3)", x.of(n, 3), n % 2);
            is("of(n, 4)", x.of(n, 4), 0);
        }
        is("of(10, 0)", x.of(10, 0), BAD);
        is("cuts()", x.cuts(), 9);
        is("span: the tenth anew", x.span(1, 0, 0, 0), 9);
        is("span", x.span(1, 0, 0, 0), FULL);
    }

    private static void cutsWithThePump() {
        DUE.part("the last SPAN goes, with a PUMP at the NODE behind it");
        Hoses x = Hoses.level(10);
        for (int i = 0; i <= 10; i++) {
            is("pumps", x.pumps(i), i + 1);
        }
        for (int left = 9; left >= 0; left--) {
            is("cuts()", x.cuts(), left);
            is("count(0)", x.count(0), left + 1);
            is("count(1)", x.count(1), (1 << left + 1) - 1);
        }
        is("pumps(0): NODE 0 is still there", x.pumps(0), 0);
        Hoses one = Hoses.level(2);
        one.pumps(1);
        is("cuts() without one there", one.cuts(), 1);
        is("count(1)", one.count(1), 2);
        is("cuts()", one.cuts(), 0);
        is("count(1)", one.count(1), 0);
        one.span(1, 3, 0, 0);
        is("count(1): it does not come back", one.count(1), 0);
    }

    private static void cutsOfNone() {
        DUE.part("cuts: NO: there is none");
        Hoses x = Hoses.level(1);
        is("cuts()", x.cuts(), 0);
        is("cuts()", x.cuts(), NO);
        x.pumps(0);
        is("cuts()", x.cuts(), NO);
        is("count(1)", x.count(1), 1);
        tolds(x, 0, 2, 0);
    }

    private static void spanAnew() {
        DUE.part("a SPAN is WHOLE (at first)");
        Hoses x = new Hoses();
        x.span(9, 0, 9, 1);
        x.bursts(0);
        x.cuts();
        is("span", x.span(1, 3, -1, 0), 0);
        int[] facts = {1, 3, -1, 0, 0};
        for (int what = 0; what <= 4; what++) {
            is("of(0, " + what + ")", x.of(0, what), facts[what]);
        }
        is("count(3)", x.count(3), 0);
    }

    private static void pumpsComeAndGo() {
        DUE.part("a PUMP comes to NODE i, or goes, if one is there");
        for (int i = 0; i <= 10; i++) {
            Hoses x = Hoses.level(10);
            is("pumps(" + i + ")", x.pumps(i), 1);
            is("count(1)", x.count(1), 1 << i);
            is("pumps(" + i + ")", x.pumps(i), 0);
            is("count(1)", x.count(1), 0);
        }
    }

    private static void burstsAgain() {
        DUE.part("bursts: 1, if it was WHOLE, else 0");
        Hoses x = Hoses.level(10);
        for (int i = 0; i < 10; i++) {
            is("bursts(" + i + ")", x.bursts(i), 1);
            is("count(3)", x.count(3), i + 1);
            is("bursts(" + i + ")", x.bursts(i), 0);
            is("count(3)", x.count(3), i + 1);
        }
        x.sets(SPARE, 1);
        is("mends(9)", x.mends(9), 0);
        is("bursts(9) once mended", x.bursts(9), 1);
    }

    private static void mendsBySpare() {
        DUE.part("mends: its LENGTHS less of SPARE; NO: SPARE is less");
        for (int m : new int[] {1, 2, 29, 30}) {
            Hoses x = new Hoses();
            x.span(m, 0, 0, 0);
            x.bursts(0);
            x.sets(SPARE, m - 1);
            is("mends(0)", x.mends(0), NO);
            is("count(9)", x.count(9), m - 1);
            is("of(0, 4)", x.of(0, 4), 1);
            x.sets(SPARE, m);
            is("mends(0)", x.mends(0), 0);
            is("count(9)", x.count(9), 0);
            is("of(0, 4)", x.of(0, 4), 0);
            x.sets(SPARE, 99);
            is("mends(0): it is not BURST", x.mends(0), NO);
            is("count(9)", x.count(9), 99);
            x.bursts(0);
            is("mends(0)", x.mends(0), 99 - m);
        }
    }

    private static void mendsOfATwin() {
        DUE.part("mends: of a TWIN one twice");
        for (int m : new int[] {1, 15, 30}) {
            Hoses x = new Hoses();
            x.span(m, 0, 0, 1);
            x.bursts(0);
            x.sets(SPARE, 2 * m - 1);
            is("mends(0)", x.mends(0), NO);
            x.sets(SPARE, 2 * m);
            is("mends(0)", x.mends(0), 0);
            x.bursts(0);
            x.sets(SPARE, 99);
            is("mends(0)", x.mends(0), 99 - 2 * m);
        }
    }

    private static void lengthsOfAll() {
        DUE.part("count(10): LENGTHS of all; of TWIN ones twice");
        Hoses x = new Hoses();
        int sum = 0;
        is("count(10)", x.count(10), 0);
        for (int n = 0; n < 10; n++) {
            int twin = n < 5 ? n % 2 : 1;
            x.span(30 - n % 3, 0, 0, twin);
            sum += (30 - n % 3) * (1 + twin);
            is("count(10)", x.count(10), sum);
        }
        x.bursts(0);
        x.bursts(9);
        is("count(10), BURST ones too", x.count(10), sum);
        Hoses most = new Hoses();
        is("does()", most.does("h30 0 0 1;".repeat(10)), 10);
        is("count(10), the most", most.count(10), 600);
    }

    /** The document's sum, by the answers of the calls. */
    private static long sum(Hoses x) {
        long h = 2920;
        for (int what = 0; what <= 4; what++) h = 31 * h + x.told(what);
        for (int what = 0; what <= 10; what++) h = 31 * h + x.count(what);
        int spans = x.count(2);
        int flow = x.count(4);
        for (int i = 0; i < spans; i++) {
            for (int what = 0; what <= 4; what++) h = 31 * h + x.of(i, what);
            h = 31 * h + x.loss(i, flow);
        }
        for (int i = 0; i <= spans; i++) {
            h = 31 * h + x.node(i, 0);
            h = 31 * h + x.node(i, 1);
        }
        for (int what = 0; what <= 2; what++) h = 31 * h + x.run(what);
        h = 31 * h + x.fewest(flow, 0);
        h = 31 * h + x.fewest(flow, 1);
        return 31 * h + x.most();
    }

    private static void digestOfEach() {
        DUE.part("digest of what the calls answer");
        Hoses[] all = {new Hoses(), line(), wholeLine(), Hoses.level(10), Hoses.level(1), Hoses.level(9), Hoses.rising(-50, 50, 1)};
        for (Hoses x : all) {
            is("digest()", x.digest(), sum(x));
            x.sets(0, 30);
            x.pumps(0);
            is("digest()", x.digest(), sum(x));
            x.told(5);
            x.mends(0);
            x.type('c');
            x.bursts(0);
            is("digest()", x.digest(), sum(x));
            x.back();
            is("digest()", x.digest(), sum(x));
        }
        for (Named each : TELLING) {
            Hoses x = line();
            long was = x.digest();
            each.call().on(x);
            DUE.holds("digest() tells of " + each.name(), x.digest() != was);
        }
        for (Named each : BADS) {
            Hoses x = line();
            long was = x.digest();
            each.call().on(x);
            DUE.holds("digest() tells of a refused " + each.name(), x.digest() != was);
        }
    }

    private static void digestAnswers() {
        DUE.part("digest changes nothing");
        Hoses x = line();
        x.told(5);
        long was = x.digest();
        String seen = x.seen();
        is("digest() again", x.digest(), was);
        tolds(x, 1, 0, 0);
        DUE.holds("all is as it was", x.seen().equals(seen));
        is("digest()", x.digest(), was);
    }

    private static void objectsByThemselves() {
        DUE.part("each object by itself");
        Hoses one = line();
        Hoses other = new Hoses();
        String was = one.seen();
        long digest = other.digest();
        is("digest() of another new one", new Hoses().digest(), digest);
        other.span(9, 0, 0, 0);
        other.does("p0;p1;k5 5;");
        other.back();
        other.told(9);
        DUE.holds("all is as it was", one.seen().equals(was));
        is("does()", one.does(), 1);
        is("told(0)", one.told(0), 0);
        is("digest() of a further one", new Hoses().digest(), digest);
    }
}
