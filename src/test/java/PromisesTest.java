/** For each promise of the document: ordinary inputs, the edges that it names, and wrong inputs. */
public final class PromisesTest {
    private static final int NONE = -1000001, BAD = -1000002, NO = -1000003, FULL = -1000004;
    private static final int MIN = Integer.MIN_VALUE, MAX = Integer.MAX_VALUE;
    private static final Due DUE = new Due("PromisesTest");

    private PromisesTest() {
    }

    public static void main(String[] args) {
        newObject();
        span();
        spansAreFull();
        cuts();
        sets();
        pumps();
        bursts();
        mends();
        lays();
        of();
        loss();
        nodeAndRun();
        failures();
        fewest();
        fewestLeast();
        most();
        count();
        shuttle();
        tanks();
        type();
        clear();
        does();
        doesNothing();
        faults();
        back();
        backOfEach();
        backOfTheTenthSpan();
        states();
        told();
        digest();
        DUE.end();
    }

    private static void is(String call, long got, long want) {
        DUE.is(call, got, want);
    }

    private static void newObject() {
        DUE.part("promise 1");
        is("NONE", HoseSpans.NONE, NONE);
        is("BAD", HoseSpans.BAD, BAD);
        is("NO", HoseSpans.NO, NO);
        is("FULL", HoseSpans.FULL, FULL);
        Hoses x = new Hoses();
        int[] counts = {0, 0, 0, 0, 10, 20, 30, 100, 5, 0, 0};
        for (int what = 0; what <= 10; what++) {
            is("count(" + what + ")", x.count(what), counts[what]);
        }
        for (int what = 0; what <= 4; what++) {
            is("told(" + what + ")", x.told(what), 0);
        }
        Hoses other = new Hoses();
        other.span(1, 0, 0, 0);
        other.type('c');
        is("count(2) of another object", x.count(2), 0);
        is("told(3) of another object", x.told(3), 0);
    }

    private static void span() {
        DUE.part("promise 2");
        Hoses x = new Hoses();
        is("span(1, 0, -50, 0)", x.span(1, 0, -50, 0), 0);
        is("span(30, 3, 50, 1)", x.span(30, 3, 50, 1), 1);
        int[][] wrong = {{0, 0, 0, 0}, {31, 0, 0, 0}, {1, -1, 0, 0}, {1, 4, 0, 0}, {1, 0, -51, 0}, {1, 0, 51, 0},
            {1, 0, 0, -1}, {1, 0, 0, 2}, {MIN, 0, 0, 0}, {1, MAX, 0, 0}, {1, 0, MIN, 0}, {1, 0, 0, MAX}};
        for (int[] w : wrong) {
            is("a wrong span", x.span(w[0], w[1], w[2], w[3]), BAD);
        }
        is("count(2)", x.count(2), 2);
        is("told(0)", x.told(0), wrong.length);
        is("told(4)", x.told(4), 2);
    }

    private static void spansAreFull() {
        Hoses x = Hoses.level(9);
        is("the tenth span", x.span(1, 3, 0, 0), 9);
        is("an eleventh span", x.span(1, 3, 0, 0), FULL);
        is("a wrong eleventh span", x.span(0, 3, 0, 0), BAD);
        is("count(2)", x.count(2), 10);
        is("told(2)", x.told(2), 1);
        is("told(0)", x.told(0), 1);
    }

    private static void cuts() {
        DUE.part("promise 3");
        Hoses x = new Hoses();
        is("cuts() of none", x.cuts(), NO);
        x = Hoses.level(2);
        x.pumps(0);
        x.pumps(1);
        x.pumps(2);
        x.bursts(1);
        is("cuts()", x.cuts(), 1);
        is("pumps left", x.count(1), 3);
        is("span again", x.span(4, 1, 7, 1), 1);
        is("it is whole", x.of(1, 4), 0);
        is("no pump behind it", x.count(1), 3);
        is("cuts()", x.cuts(), 1);
        is("cuts()", x.cuts(), 0);
        is("the pump at node 0 stays", x.count(1), 1);
        is("cuts()", x.cuts(), NO);
        is("told(1)", x.told(1), 1);
        is("told(4)", x.told(4), 5);
    }

    private static void sets() {
        DUE.part("promise 4");
        Hoses x = new Hoses();
        int[][] ranges = {{10, 1, 30}, {20, 0, 100}, {30, 0, 100}, {100, 20, 180}, {5, 0, 20}, {0, 0, 99}};
        for (int k = 0; k < 6; k++) {
            int[] r = ranges[k];
            is("sets(" + k + ", least)", x.sets(k, r[1]), r[0]);
            is("sets(" + k + ", most)", x.sets(k, r[2]), r[1]);
            is("sets(" + k + ", less)", x.sets(k, r[1] - 1), BAD);
            is("sets(" + k + ", more)", x.sets(k, r[2] + 1), BAD);
            is("count", x.count(4 + k), r[2]);
            is("sets(" + k + ", the same)", x.sets(k, r[2]), r[2]);
        }
        is("sets(-1, 5)", x.sets(-1, 5), BAD);
        is("sets(6, 5)", x.sets(6, 5), BAD);
        is("sets(MIN, 5)", x.sets(MIN, 5), BAD);
        is("sets(MAX, 5)", x.sets(MAX, 5), BAD);
        is("told(0)", x.told(0), 16);
        is("told(4)", x.told(4), 5);
    }

    private static void pumps() {
        DUE.part("promise 5");
        Hoses x = Hoses.level(10);
        is("pumps(0)", x.pumps(0), 1);
        is("pumps(10)", x.pumps(10), 2);
        is("count(1)", x.count(1), 1025);
        is("pumps(0)", x.pumps(0), 1);
        is("count(1)", x.count(1), 1024);
        is("pumps(11)", x.pumps(11), BAD);
        is("pumps(-1)", x.pumps(-1), BAD);
        is("pumps(32)", x.pumps(32), BAD);
        is("count(0)", x.count(0), 1);
        x.back();
        is("count(1) after back()", x.count(1), 1025);
        is("pumps(1) without spans", new Hoses().pumps(1), BAD);
        is("pumps(0) without spans", new Hoses().pumps(0), 1);
    }

    private static void bursts() {
        DUE.part("promise 6");
        Hoses x = Hoses.level(2);
        is("bursts(1)", x.bursts(1), 1);
        is("told(4)", x.told(4), 3);
        is("bursts(1) again", x.bursts(1), 0);
        is("told(4)", x.told(4), 4);
        is("of(1, 4)", x.of(1, 4), 1);
        is("of(0, 4)", x.of(0, 4), 0);
        is("bursts(2)", x.bursts(2), BAD);
        is("bursts(-1)", x.bursts(-1), BAD);
        is("bursts(MAX)", x.bursts(MAX), BAD);
        is("count(3)", x.count(3), 1);
        is("bursts(0) without spans", new Hoses().bursts(0), BAD);
    }

    private static void mends() {
        DUE.part("promise 7");
        Hoses x = new Hoses();
        x.span(7, 0, 0, 0);
        x.span(7, 0, 0, 1);
        x.sets(5, 20);
        is("mends(0) of a whole one", x.mends(0), NO);
        x.bursts(0);
        x.bursts(1);
        is("mends(0)", x.mends(0), 13);
        is("of(0, 4)", x.of(0, 4), 0);
        is("mends(1)", x.mends(1), NO);
        is("count(9)", x.count(9), 13);
        x.sets(5, 14);
        is("mends(1)", x.mends(1), 0);
        is("count(9)", x.count(9), 0);
        is("count(3)", x.count(3), 0);
        is("mends(2)", x.mends(2), BAD);
        is("mends(-1)", x.mends(-1), BAD);
        is("told(1)", x.told(1), 2);
        x.back();
        is("of(1, 4) after back()", x.of(1, 4), 1);
        is("count(9) after back()", x.count(9), 14);
    }

    private static void lays() {
        DUE.part("promise 8");
        Hoses x = Hoses.level(2);
        x.pumps(2);
        is("lays()", x.lays(), 1);
        is("count(1), the last node's pump gone", x.count(1), 1);
        is("run(1)", x.run(1), 0);
        is("told(4)", x.told(4), 4);
        x.back();
        is("count(1) after back()", x.count(1), 4);
        x.bursts(0);
        is("lays() past a burst", x.lays(), NO);
        is("count(1)", x.count(1), 4);
        is("told(1)", x.told(1), 1);
        is("told(4)", x.told(4), 4);
        Hoses none = new Hoses();
        is("lays() with no spans, NEED 30", none.lays(), NO);
        none.sets(2, 20);
        none.pumps(0);
        is("lays() with no spans, NEED 20", none.lays(), 0);
        is("count(1)", none.count(1), 0);
    }

    private static void of() {
        DUE.part("promise 9");
        Hoses x = new Hoses();
        x.span(3, 1, -8, 1);
        x.span(9, 2, 6, 0);
        x.bursts(1);
        int[][] facts = {{3, 1, -8, 1, 0}, {9, 2, 6, 0, 1}};
        for (int i = 0; i < 2; i++) {
            for (int what = 0; what < 5; what++) {
                is("of(" + i + ", " + what + ")", x.of(i, what), facts[i][what]);
            }
        }
        is("of(2, 0)", x.of(2, 0), BAD);
        is("of(-1, 0)", x.of(-1, 0), BAD);
        is("of(0, 5)", x.of(0, 5), BAD);
        is("of(0, -1)", x.of(0, -1), BAD);
        is("of(MAX, MAX)", x.of(MAX, MAX), BAD);
        is("told(0)", x.told(0), 5);
        is("told(4)", x.told(4), 3);
    }

    private static void loss() {
        DUE.part("promise 10");
        Hoses x = new Hoses();
        x.span(10, 0, 0, 0);
        x.span(10, 1, 0, 0);
        x.span(10, 2, 0, 0);
        x.span(10, 3, 0, 0);
        x.span(10, 3, -5, 1);
        x.span(1, 3, -3, 0);
        int[] by10 = {800, 200, 80, 20, 0, -1};
        int[] by11 = {968, 242, 96, 24, 2, -1};
        for (int i = 0; i < 6; i++) {
            is("loss(" + i + ", 10)", x.loss(i, 10), by10[i]);
            is("loss(" + i + ", 11)", x.loss(i, 11), by11[i]);
        }
        is("loss(0, 1)", x.loss(0, 1), 8);
        is("loss(3, 1), cut", x.loss(3, 1), 0);
        is("loss(4, 1), a half rounded up", x.loss(4, 1), -5);
        is("loss(0, 30)", x.loss(0, 30), 7200);
        is("loss(5, 7), cut ahead of the rise", x.loss(5, 7), -3);
        is("loss(0, 0)", x.loss(0, 0), BAD);
        is("loss(0, 31)", x.loss(0, 31), BAD);
        is("loss(6, 10)", x.loss(6, 10), BAD);
        is("loss(-1, 10)", x.loss(-1, 10), BAD);
        is("told(0)", x.told(0), 4);
    }

    private static void ran(Hoses x, int where, int how, int end) {
        is("run(0)", x.run(0), where);
        is("run(1)", x.run(1), how);
        is("run(2)", x.run(2), end);
    }

    private static void atNode(Hoses x, int i, int in, int behind) {
        is("node(" + i + ", 0)", x.node(i, 0), in);
        is("node(" + i + ", 1)", x.node(i, 1), behind);
    }

    private static void nodeAndRun() {
        DUE.part("promises 11 and 12");
        Hoses x = Hoses.level(2);
        ran(x, 2, 5, 16);
        atNode(x, 0, 20, 20);
        atNode(x, 1, 18, 18);
        atNode(x, 2, 16, 16);
        x.pumps(1);
        ran(x, NONE, 0, 98);
        atNode(x, 1, 18, 100);
        atNode(x, 2, 98, 98);
        x.pumps(2);
        ran(x, NONE, 0, 100);
        atNode(x, 2, 98, 100);
        x.sets(3, 50);
        x.sets(1, 60);
        ran(x, NONE, 0, 56);
        atNode(x, 1, 58, 58);
        is("node(3, 0)", x.node(3, 0), BAD);
        is("node(-1, 0)", x.node(-1, 0), BAD);
        is("node(0, 2)", x.node(0, 2), BAD);
        is("node(0, -1)", x.node(0, -1), BAD);
        is("run(3)", x.run(3), BAD);
        is("run(-1)", x.run(-1), BAD);
        is("told(0)", x.told(0), 6);
        is("told(4)", x.told(4), 5);
    }

    private static void failures() {
        DUE.part("promises 11 and 12, how it fails");
        Hoses x = Hoses.level(2);
        x.sets(1, 16);
        x.bursts(1);
        ran(x, 1, 1, NONE);
        atNode(x, 1, 14, 14);
        atNode(x, 2, NONE, NONE);
        x.sets(4, 15);
        x.pumps(1);
        ran(x, 1, 2, NONE);
        atNode(x, 1, 14, NONE);
        x.sets(4, 14);
        ran(x, 1, 1, NONE);
        atNode(x, 1, 14, 100);

        Hoses empty = Hoses.level(2);
        empty.sets(2, 0);
        empty.sets(1, 4);
        ran(empty, NONE, 0, 0);
        empty.sets(1, 3);
        ran(empty, 1, 3, NONE);
        atNode(empty, 1, 1, 1);
        atNode(empty, 2, NONE, NONE);

        Hoses burst = new Hoses();
        burst.span(1, 0, 0, 0);
        burst.sets(2, 20);
        burst.sets(3, 101);
        burst.pumps(0);
        ran(burst, 0, 4, NONE);
        burst.sets(3, 100);
        ran(burst, NONE, 0, 20);
        burst.sets(3, 180);
        burst.bursts(0);
        ran(burst, 0, 1, NONE);

        Hoses short30 = Hoses.level(1);
        short30.sets(1, 31);
        ran(short30, 1, 5, 29);
        short30.sets(1, 32);
        ran(short30, NONE, 0, 30);
        short30.sets(1, 4);
        short30.pumps(1);
        ran(short30, 1, 2, NONE);
        atNode(short30, 1, 2, NONE);

        int[] stands = {100, 120, 150, 180};
        for (int s = 0; s < 4; s++) {
            Hoses sort = new Hoses();
            sort.span(1, s, 50, 0);
            sort.span(1, s, -50, 0);
            sort.sets(0, 1);
            sort.sets(1, 100);
            sort.sets(3, stands[s]);
            sort.pumps(0);
            is("run(1) of " + stands[s], sort.run(1), 0);
            if (s < 3) {
                sort.sets(3, stands[s] + 1);
                is("run(1) of one more", sort.run(1), 4);
            }
        }
        Hoses down = new Hoses();
        down.span(1, 3, -2, 0);
        down.span(1, 3, 0, 0);
        down.sets(0, 1);
        down.sets(3, 179);
        down.pumps(0);
        ran(down, 1, 4, NONE);
        atNode(down, 1, 181, 181);
    }

    private static void fewest() {
        DUE.part("promise 13");
        Hoses x = Hoses.level(2);
        x.pumps(1);
        x.pumps(2);
        is("fewest(10, 0)", x.fewest(10, 0), 1);
        is("fewest(10, 1)", x.fewest(10, 1), 1);
        x.sets(2, 16);
        is("fewest(10, 0) for NEED 16", x.fewest(10, 0), 0);
        is("fewest(10, 1) for NEED 16", x.fewest(10, 1), 0);
        x.sets(2, 97);
        is("fewest(10, 1) for NEED 97", x.fewest(10, 1), 2);
        x.sets(2, 99);
        is("fewest(10, 0) for NEED 99", x.fewest(10, 0), NONE);
        is("fewest(10, 1) for NEED 99", x.fewest(10, 1), NONE);
        is("fewest(0, 0)", x.fewest(0, 0), BAD);
        is("fewest(31, 0)", x.fewest(31, 0), BAD);
        is("fewest(10, 2)", x.fewest(10, 2), BAD);
        is("fewest(10, -1)", x.fewest(10, -1), BAD);
        is("told(0)", x.told(0), 4);
        is("count(1)", x.count(1), 6);
        is("told(4)", x.told(4), 5);
        Hoses none = new Hoses();
        is("fewest(1, 1) with no spans", none.fewest(1, 1), NONE);
        none.sets(1, 30);
        is("fewest(1, 1) with no spans, SOURCE 30", none.fewest(1, 1), 0);
    }

    private static void fewestLeast() {
        DUE.part("promise 13, of like ones the least");
        Hoses ten = Hoses.level(10);
        ten.sets(2, 90);
        is("fewest(10, 1) of ten", ten.fewest(10, 1), 1 << 5);
        ten.sets(2, 99);
        is("fewest(1, 1) of ten", ten.fewest(1, 1), 1);
        ten.sets(2, 98);
        is("fewest(10, 1) of ten, at 9 p is below LEAST", ten.fewest(10, 1), (1 << 9) + 1);
        ten.sets(4, 2);
        is("fewest(10, 1) of ten, at 9 p is LEAST", ten.fewest(10, 1), 1 << 9);
        Hoses many = new Hoses();
        for (int i = 0; i < 10; i++) {
            many.span(10, 1, 10, 0);
        }
        is("loss(0, 6)", many.loss(0, 6), 82);
        many.sets(2, 18);
        is("fewest(6, 0) of a pump at each", many.fewest(6, 0), 10);
        is("fewest(6, 1) of a pump at each", many.fewest(6, 1), 1023);
        is("lays()", many.count(2) == 10 ? lays(many, 6) : 0, 10);
        is("run(1) with them", many.run(1), 0);
        is("run(2) with them", many.run(2), 18);
        is("node(9, 1)", many.node(9, 1), 100);
        is("most() with them", many.most(), 6);
        is("digest() with them", many.digest(), told(many));
        Hoses x = new Hoses();
        for (int i = 0; i < 4; i++) {
            x.span(10, 2, 0, 0);
        }
        // by FLOW 7 each loses 39: SOURCE 60 and OUT 100 last one and two spans
        x.sets(1, 60);
        x.sets(2, 0);
        is("loss(0, 7)", x.loss(0, 7), 39);
        is("fewest(7, 0)", x.fewest(7, 0), 2);
        is("fewest(7, 1): of 0 2, 1 2, 1 3 the least", x.fewest(7, 1), 5);
        x.sets(4, 20);
        is("fewest(7, 1): at 1, 2 is 61", x.fewest(7, 1), 5);
        x.sets(1, 70);
        x.sets(2, 60);
        is("fewest(7, 1): NEED 60 asks for one at 3", x.fewest(7, 1), 10);
        x.sets(2, 0);
        x.sets(1, 39 + 20);
        is("fewest(7, 1): at 1 p is LEAST", x.fewest(7, 1), 5);
        x.bursts(3);
        x.mends(3);
        x.cuts();
        is("fewest(7, 1): at 1 p is LEAST", x.fewest(7, 1), 2);
        x.sets(1, 39 + 19);
        is("fewest(7, 1): at 1 p is below LEAST", x.fewest(7, 1), 1 + 2);
        x.sets(1, 19);
        is("fewest(7, 1): at 0 p is below LEAST", x.fewest(7, 1), NONE);
        x.sets(1, 100);
        is("fewest(7, 1): at 0 p is OUT already", x.fewest(7, 1), 2);
        is("span", x.span(10, 2, 0, 0), 3);
        x.bursts(2);
        is("fewest(7, 1) past a burst", x.fewest(7, 1), NONE);
    }

    private static int lays(Hoses x, int flow) {
        x.sets(0, flow);
        return x.lays();
    }

    private static void most() {
        DUE.part("promise 14");
        Hoses one = new Hoses();
        one.span(21, 0, 0, 0);
        one.sets(2, 0);
        is("most() of 1", one.most(), 1);
        one.span(7, 0, 0, 0);
        is("most() of none", one.most(), NONE);
        Hoses x = Hoses.level(1);
        is("most()", x.most(), NONE);
        x.pumps(0);
        is("most(), 100 less 70", x.most(), 30);
        x.span(4, 3, 0, 0);
        is("most(), 100 less 10 q q by 100", x.most(), 26);
        x.bursts(1);
        is("most() past a burst", x.most(), NONE);
        Hoses no = new Hoses();
        is("most() with no spans", no.most(), NONE);
        no.pumps(0);
        is("most() with a pump at the last node", no.most(), 30);
        Hoses down = new Hoses();
        down.span(30, 3, -30, 0);
        down.span(1, 0, -50, 0);
        down.sets(1, 100);
        down.sets(0, 1);
        is("run(1): too much for the second by FLOW 1", down.run(1), 4);
        is("most(), though less is not met", down.most(), 10);
        is("told(4)", down.told(4), 4);
    }

    private static void count() {
        DUE.part("promise 15");
        Hoses x = new Hoses();
        x.span(7, 0, 0, 0);
        x.span(5, 0, 0, 1);
        x.span(4, 0, 0, 1);
        x.pumps(1);
        x.pumps(3);
        x.bursts(0);
        x.bursts(2);
        for (int k = 0; k < 6; k++) {
            x.sets(k, 20 + (k == 4 ? -1 : k));
        }
        int[] counts = {2, 10, 3, 2, 20, 21, 22, 23, 19, 25, 25};
        for (int what = 0; what <= 10; what++) {
            is("count(" + what + ")", x.count(what), counts[what]);
        }
        is("count(11)", x.count(11), BAD);
        is("count(-1)", x.count(-1), BAD);
        is("count(MIN)", x.count(MIN), BAD);
        is("told(0)", x.told(0), 3);
    }

    private static void shuttle() {
        DUE.part("promise 16");
        Hoses x = new Hoses();
        is("shuttle, by the round, cut", x.shuttle(1, 10, 6, 10, 7), 18);
        is("shuttle, by the round", x.shuttle(3, 10, 6, 10, 7), 54);
        is("shuttle, by filling, cut", x.shuttle(20, 3, 7, 1, 1), 25);
        is("shuttle, all least", x.shuttle(1, 1, 1, 1, 1), 15);
        is("shuttle, all most", x.shuttle(20, 99, 99, 99, 99), 60);
        int[] right = {20, 99, 99, 99, 99};
        for (int k = 0; k < 5; k++) {
            for (int v : new int[] {0, right[k] + 1, MIN, MAX}) {
                int[] a = right.clone();
                a[k] = v;
                is("a wrong shuttle", x.shuttle(a[0], a[1], a[2], a[3], a[4]), BAD);
            }
        }
        is("told(0)", x.told(0), 20);
        is("told(4)", x.told(4), 0);
    }

    private static void tanks() {
        DUE.part("promise 17");
        Hoses x = new Hoses();
        is("tanks for 1", x.tanks(1, 10, 6, 10, 7), 1);
        is("tanks for 9999", x.tanks(9999, 99, 1, 1, 1), NONE);
        is("tanks for 5940", x.tanks(5940, 99, 1, 1, 1), 4);
        is("tanks for 18", x.tanks(18, 10, 6, 10, 7), 1);
        is("tanks for 19", x.tanks(19, 10, 6, 10, 7), 2);
        is("tanks for 100, the most by filling", x.tanks(100, 10, 6, 10, 7), 6);
        is("tanks for 101", x.tanks(101, 10, 6, 10, 7), NONE);
        is("tanks, 20 of them", x.tanks(60, 99, 99, 99, 99), 4);
        is("tanks, all 20", x.tanks(301, 1, 1, 99, 1), NONE);
        is("tanks, 20 of them", x.tanks(6, 1, 1, 99, 1), 20);
        is("tanks, 19 of them", x.tanks(5, 1, 1, 99, 1), 17);
        int[] right = {9999, 99, 99, 99, 99};
        for (int k = 0; k < 5; k++) {
            for (int v : new int[] {0, right[k] + 1, MIN, MAX}) {
                int[] a = right.clone();
                a[k] = v;
                is("wrong tanks", x.tanks(a[0], a[1], a[2], a[3], a[4]), BAD);
            }
        }
        is("told(0)", x.told(0), 20);
    }

    private static void type() {
        DUE.part("promise 18");
        Hoses x = new Hoses();
        is("type(-1)", x.type(-1), BAD);
        is("type(128)", x.type(128), BAD);
        is("told(3)", x.told(3), 0);
        is("type(0)", x.type(0), 1);
        is("type(127)", x.type(127), 2);
        for (int n = 3; n <= 120; n++) {
            is("type('c')", x.type('c'), n);
        }
        is("type('c') when full", x.type('c'), FULL);
        is("type(128) when full", x.type(128), BAD);
        is("told(3)", x.told(3), 120);
        is("told(0)", x.told(0), 3);
        is("told(2)", x.told(2), 1);
        is("told(4)", x.told(4), 0);
    }

    private static void clear() {
        DUE.part("promise 19");
        Hoses x = new Hoses();
        is("clear() of none", x.clear(), 0);
        x.write("p0;");
        is("clear()", x.clear(), 3);
        is("told(3)", x.told(3), 0);
        is("does()", x.does(), -10);
        is("type('p')", x.type('p'), 1);
        is("told(4)", x.told(4), 0);
    }

    private static void does() {
        DUE.part("promise 20");
        Hoses x = new Hoses();
        is("does()", x.does(" h 1 2-3 1 ;h30 0 050 000;k5 099;p0;p 2;x0;x1;m0;h1 0 -0 0;c; "), 10);
        int[] counts = {2, 5, 2, 1, 10, 20, 30, 100, 5, 97, 32};
        for (int what = 0; what <= 10; what++) {
            is("count(" + what + ")", x.count(what), counts[what]);
        }
        is("of(0, 2)", x.of(0, 2), -3);
        is("of(1, 2)", x.of(1, 2), 50);
        is("told(4)", x.told(4), 1);
        is("told(3), it stays", x.told(3), 62);
        is("does() of it again", x.does(), 10);
        is("count(2)", x.count(2), 4);
        is("told(4)", x.told(4), 2);
        is("back()", x.back(), 1);
        is("back()", x.back(), 0);
        is("count(2)", x.count(2), 0);
        is("count(9)", x.count(9), 0);
        is("told(3)", x.told(3), 62);
        is("forty orders", x.does("p0;".repeat(40)), 40);
        is("count(0)", x.count(0), 0);
        is("an order a blank ends", x.does("p 0 ;"), 1);
        is("count(0)", x.count(0), 1);
    }

    private static void doesNothing() {
        DUE.part("promise 20, nothing done");
        Hoses x = Hoses.level(1);
        String[] ended = {"p0;p1;p2;", "k0 5;k2 101;", "k0 5;k6 0;", "c;c;", "h1 0 0 0;h31 0 0 0;", "h1 0 0 0;h1 0 -051 0;",
            "x0;x1;", "x0;m0;", "p0;m0;", "p0;m1;"};
        int[] at = {2, 1, 1, 1, 1, 1, 1, 1, 1, 1};
        for (int n = 0; n < ended.length; n++) {
            is(ended[n], x.does(ended[n]), -1000 - at[n]);
            is("count(0)", x.count(0), 0);
            is("count(2)", x.count(2), 1);
            is("count(3)", x.count(3), 0);
            is("count(4)", x.count(4), 10);
        }
        is("told(4)", x.told(4), 1);
        Hoses full = Hoses.level(9);
        is("an eleventh span", full.does("h1 0 0 0;h1 0 0 0;"), -1001);
        is("count(2)", full.count(2), 9);
        is("sixty cuts", full.does("c;".repeat(60)), -1009);
        is("count(2)", full.count(2), 9);
        for (int what = 0; what <= 2; what++) {
            is("told(" + what + ")", x.told(what) + full.told(what), 0);
        }
    }

    private static void faults() {
        DUE.part("promise 20, faults");
        Object[][] faults = {
            {"", 0}, {" ", 1}, {"   ", 3}, {"c", 1}, {"c ", 2}, {"p", 1}, {"p ", 2}, {"p1", 2}, {"p1 ", 3}, {"c;p", 3},
            {"p;", 1}, {"p -1;", 2}, {"p-1;", 1}, {"pp1;", 1}, {"p1 1;", 3}, {"p1234;", 4}, {"p 1 234;", 4},
            {"z", 0}, {"C;", 0}, {";", 0}, {"1;", 0}, {"-1;", 0}, {"c;;", 2}, {"c;l;", 2}, {"c1;", 1}, {"c;c", 3},
            {"k1;", 2}, {"k1 ;", 3}, {"k12", 3}, {"k123456;", 4}, {"k1 -2;", 3}, {"k1 2 3;", 5}, {"k-1 2;", 1},
            {"h1 2 3;", 6}, {"h1 2 3 4", 8}, {"h1 2 3 4 5;", 9}, {"h1 2--3 4;", 5}, {"h1 2- 3 4;", 5}, {"h1 2-;", 5},
            {"h1 2-", 5}, {"h1 2-1234 0;", 8}, {"h1 2-123-4;", 8}, {"h1 2 -3-4;", 7}, {"h-1 2 3 4;", 1}, {"h1-2 3 4;", 2},
            {"p1\t;", 2}, {"\0", 0}, {"p1;" + (char) 127, 3}, {"p1/;", 2}, {"p1:;", 2}, {"x1 2;", 3}, {"m1 2;", 3}};
        for (Object[] fault : faults) {
            Hoses x = Hoses.level(3);
            is("does() of " + fault[0], x.does((String) fault[0]), -10 - (Integer) fault[1]);
            nothingDone(x);
        }
        Hoses x = Hoses.level(3);
        is("a fault behind an order that would be refused", x.does("p9;q"), -13);
        is("a fault in the sixtieth order", x.does("c;".repeat(59) + "q;"), -128);
        is("a text that ends too early at 120", x.does("p0;".repeat(39) + "p00"), -130);
        nothingDone(x);
        String[] right = {"h1 2-3 0;", "h 1 2 -3 0;", "h 01 002 -003 000;", "  p  1  ;  ", "k2  0;", "c;", "c ;"};
        for (String text : right) {
            is("does() of " + text, x.does(text), 1);
        }
    }

    private static void nothingDone(Hoses x) {
        is("told(4)", x.told(4), 3);
        is("count(0)", x.count(0), 0);
        is("told(0)", x.told(0), 0);
    }

    private static void back() {
        DUE.part("promise 21");
        Hoses x = new Hoses();
        is("back() at first", x.back(), NO);
        x.span(5, 1, 2, 1);
        x.pumps(0);
        x.sets(0, 7);
        x.bursts(0);
        is("back()", x.back(), 3);
        is("count(3)", x.count(3), 0);
        is("back()", x.back(), 2);
        is("count(4)", x.count(4), 10);
        is("back()", x.back(), 1);
        is("count(0)", x.count(0), 0);
        x.sets(0, 8);
        is("back() of what came then", x.back(), 1);
        is("count(4)", x.count(4), 10);
        is("back()", x.back(), 0);
        is("count(2)", x.count(2), 0);
        is("back()", x.back(), NO);
        is("told(1), not taken back", x.told(1), 2);
        is("span of the same number", x.span(1, 0, 0, 0), 0);
    }

    /** Each call told S by itself: what back() brings is what was right ahead of it. */
    private static void backOfEach() {
        DUE.part("promise 21, of each call");
        String[] calls = {"span", "cuts", "sets", "pumps", "bursts", "mends", "lays", "does"};
        for (String call : calls) {
            Hoses x = new Hoses();
            x.span(3, 3, 1, 1);
            x.span(3, 3, 1, 0);
            x.sets(5, 50);
            x.bursts(1);
            x.mends(1);
            x.bursts(0);
            x.mends(0);
            x.bursts(0);
            int states = x.told(4);
            if (call.equals("lays")) x.mends(0);
            long was = seen(x);
            switch (call) {
                case "span": x.span(1, 1, 1, 1); break;
                case "cuts": x.cuts(); break;
                case "sets": x.sets(0, 3); break;
                case "pumps": x.pumps(1); break;
                case "bursts": x.bursts(1); break;
                case "mends": x.mends(0); break;
                case "lays": x.lays(); break;
                default: x.does("h1 1 1 1;p2;c;k0 1;"); break;
            }
            DUE.holds(call + " changed something", was != seen(x));
            is(call + ": told(4)", x.told(4), states);
            is("back() of " + call, x.back(), states - 1);
            is("what is there then", seen(x), was);
        }
    }

    private static void backOfTheTenthSpan() {
        DUE.part("promise 21, of the tenth span");
        Hoses x = Hoses.level(9);
        x.span(9, 1, -9, 1);
        x.bursts(9);
        x.sets(5, 7);
        long was = seen(x);
        x.cuts();
        x.span(30, 2, 50, 0);
        x.back();
        x.back();
        is("what is there then", seen(x), was);
    }

    private static long seen(Hoses x) {
        long h = 0;
        for (int i = 0; i <= 10; i++) h = 31 * h + x.count(i);
        for (int i = 0; i < x.count(2); i++) {
            for (int what = 0; what <= 4; what++) h = 31 * h + x.of(i, what);
        }
        return h;
    }

    private static void states() {
        DUE.part("promise 21, five at most");
        Hoses x = new Hoses();
        x.write("p0;");
        for (int v = 1; v <= 8; v++) {
            is("sets", x.sets(5, v), v - 1);
            is("told(4)", x.told(4), Math.min(v, 5));
        }
        x.sets(5, 100);
        x.cuts();
        x.count(99);
        is("told(4), refused ones leave none", x.told(4), 5);
        for (int n = 4; n >= 0; n--) {
            is("back()", x.back(), n);
            is("count(9)", x.count(9), 3 + n);
        }
        is("back()", x.back(), NO);
        is("count(9)", x.count(9), 3);
        is("told(3), not taken back", x.told(3), 3);
        is("told(0), not taken back", x.told(0), 2);
        x.lays();
        x.sets(2, 0);
        x.lays();
        x.does();
        is("told(4)", x.told(4), 3);
        x.back();
        is("count(0) ahead of does()", x.count(0), 0);
        x.back();
        x.back();
        is("count(6)", x.count(6), 30);
    }

    private static void told() {
        DUE.part("promise 22");
        Hoses x = Hoses.level(10);
        x.cuts();
        x.span(1, 0, 0, 0);
        x.span(1, 0, 0, 0);
        x.mends(0);
        x.mends(0);
        x.pumps(11);
        x.node(11, 0);
        x.shuttle(0, 0, 0, 0, 0);
        x.type(-1);
        x.type(32);
        x.does();
        int[] tolds = {4, 2, 1, 1, 5};
        for (int what = 0; what <= 4; what++) {
            is("told(" + what + ")", x.told(what), tolds[what]);
        }
        is("told(5)", x.told(5), BAD);
        is("told(-1)", x.told(-1), BAD);
        is("told(MIN)", x.told(MIN), BAD);
        is("told(0), these count", x.told(0), 7);
    }

    private static void digest() {
        DUE.part("promise 23");
        Hoses x = new Hoses();
        is("digest() at first", x.digest(), told(x));
        x.span(10, 3, 5, 1);
        x.span(12, 2, -5, 0);
        x.pumps(0);
        x.bursts(1);
        x.sets(0, 7);
        x.sets(9, 9);
        x.cuts();
        x.mends(0);
        x.write("c;");
        is("digest()", x.digest(), told(x));
        is("told(0), a digest adds none", x.told(0), 1);
        is("told(4), nor a state", x.told(4), 5);
        long was = x.digest();
        x.sets(9, 9);
        DUE.holds("digest() tells of refusals", was != x.digest());
        is("digest() of the shared test", emptied(), -8729795297039001903L);
    }

    private static long told(Hoses x) {
        long h = 2920;
        for (int i = 0; i <= 4; i++) h = 31 * h + x.told(i);
        for (int i = 0; i <= 10; i++) h = 31 * h + x.count(i);
        for (int i = 0; i < x.count(2); i++) {
            for (int what = 0; what <= 4; what++) h = 31 * h + x.of(i, what);
            h = 31 * h + x.loss(i, x.count(4));
        }
        for (int i = 0; i <= x.count(2); i++) h = 31 * (31 * h + x.node(i, 0)) + x.node(i, 1);
        for (int i = 0; i <= 2; i++) h = 31 * h + x.run(i);
        h = 31 * h + x.fewest(x.count(4), 0);
        h = 31 * h + x.fewest(x.count(4), 1);
        return 31 * h + x.most();
    }

    /** An object as the shared test's fourth run leaves it: as new, but for 34 BAD and 6 NO refused. */
    private static long emptied() {
        Hoses x = new Hoses();
        for (int n = 0; n < 34; n++) x.told(5);
        for (int n = 0; n < 6; n++) x.back();
        return x.digest();
    }
}
