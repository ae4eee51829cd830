/**
 * What the document says of LOSS, of a RUN and how it FAILS, of FEWEST and of MOST: for each sentence that names a
 * boundary, the last number on one side of it and the first on the other.
 */
public final class RunEdgesTest {
    private static final int NONE = -1000001, NO = -1000003;
    private static final int FLOW = 0, SOURCE = 1, NEED = 2, OUT = 3, LEAST = 4, SPARE = 5;
    private static final int[] HARD = {80, 20, 8, 2};
    private static final int[] STANDS = {100, 120, 150, 180};
    private static final Due DUE = new Due("RunEdgesTest");

    private RunEdgesTest() {
    }

    public static void main(String[] args) {
        lossBySort();
        halfOfATwin();
        lossIsCut();
        lossBelow0();
        lossOfABurstOne();
        intake();
        intakeFarther();
        intakeAtTheLast();
        noIntakeWithoutPump();
        out();
        need();
        needBehindAPump();
        stands();
        standsBehindAPump();
        standsOfATwin();
        standsNotAtTheLast();
        below0();
        firstOf();
        intakeAheadOfAll();
        noFurther();
        firstNodeThatFails();
        met();
        noSpans();
        noneNeeded();
        notTheLastOne();
        pumpsDoNotMatter();
        fewestAheadOfLeast();
        leastAsBits();
        allTen();
        noSet();
        byItsFlow();
        lays();
        laysByFlow();
        mostAtTheTop();
        mostAtTheBottom();
        mostNotByLess();
        mostByPumps();
        mostNotByFlow();
        DUE.end();
    }

    private static void is(String call, long got, long want) {
        DUE.is(call, got, want);
    }

    private static void ran(Hoses x, int where, int how, int end) {
        is("run(0)", x.run(0), where);
        is("run(1)", x.run(1), how);
        is("run(2)", x.run(2), end);
    }

    private static void atNode(Hoses x, int i, int in, int behind) {
        is("node(" + i + ", 0)", x.node(i, 0), in);
        is("node(" + i + ", 1)", x.node(i, 1), behind);
    }

    private static void lossBySort() {
        DUE.part("HARD 80, 20, 8, 2");
        int[] by30 = {720, 180, 72, 18};
        for (int s = 0; s <= 3; s++) {
            Hoses x = new Hoses();
            x.span(1, s, 0, 0);
            x.span(30, s, 0, 0);
            x.span(5, s, 0, 0);
            is("loss of 1 by 30, sort " + s, x.loss(0, 30), by30[s]);
            is("loss of 30 by 30, sort " + s, x.loss(1, 30), 30 * by30[s]);
            is("loss of 5 by 10, sort " + s, x.loss(2, 10), 5 * HARD[s]);
            is("loss of 1 by 10, sort " + s, x.loss(0, 10), HARD[s]);
        }
    }

    private static void halfOfATwin() {
        DUE.part("f is that, in a TWIN one half of it, rounded up");
        Hoses x = new Hoses();
        x.span(30, 0, 0, 0);
        x.span(30, 0, 0, 1);
        for (int q = 1; q <= 30; q++) {
            is("loss of the single one by " + q, x.loss(0, q), 24 * q * q);
        }
        int[] half = {1, 1, 2, 2, 3, 3, 4, 4, 5, 5, 6, 6, 7, 7, 8, 8, 9, 9, 10, 10, 11, 11, 12, 12, 13, 13, 14, 14, 15, 15};
        for (int q = 1; q <= 30; q++) {
            is("loss of the TWIN by " + q, x.loss(1, q), 24 * half[q - 1] * half[q - 1]);
        }
    }

    private static void lossIsCut() {
        DUE.part("m times HARD times f times f by 100, cut, and h");
        Hoses x = new Hoses();
        for (int rise : new int[] {0, -1, -3, 1, 50, -50}) {
            is("span", x.span(1, 3, rise, 0), x.count(2) - 1);
        }
        for (int i = 0; i < 6; i++) {
            int h = x.of(i, 2);
            is("loss by 1: 2 by 100", x.loss(i, 1), h);
            is("loss by 7: 98 by 100", x.loss(i, 7), h);
            is("loss by 8: 128 by 100", x.loss(i, 8), 1 + h);
            is("loss by 9: 162 by 100", x.loss(i, 9), 1 + h);
            is("loss by 10: 200 by 100", x.loss(i, 10), 2 + h);
        }
        x.span(3, 2, 0, 0);
        x.span(25, 3, 0, 0);
        is("loss by 2: 96 by 100, cut once all is multiplied", x.loss(6, 2), 0);
        is("loss by 3: 216 by 100, cut once all is multiplied", x.loss(6, 3), 2);
        is("loss by 1: 50 by 100", x.loss(7, 1), 0);
        is("loss by 2: 200 by 100", x.loss(7, 2), 2);
    }

    private static void lossBelow0() {
        DUE.part("and h (below 0, perhaps)");
        Hoses x = Hoses.rising(-50, -50);
        is("loss(0, 1)", x.loss(0, 1), -50);
        x.sets(SOURCE, 0);
        ran(x, NONE, 0, 100);
        atNode(x, 1, 50, 50);
        atNode(x, 2, 100, 100);
    }

    private static void lossOfABurstOne() {
        DUE.part("LOSS of a SPAN, WHOLE or BURST");
        Hoses x = new Hoses();
        x.span(10, 1, -7, 1);
        is("loss(0, 9)", x.loss(0, 9), 43);
        x.bursts(0);
        is("loss(0, 9)", x.loss(0, 9), 43);
    }

    private static void intake() {
        DUE.part("if a PUMP is there: if p is below LEAST: it FAILS there, 2");
        for (int least = 0; least <= 20; least++) {
            Hoses x = Hoses.rising(0);
            x.pumps(0);
            x.sets(LEAST, least);
            x.sets(SOURCE, least);
            ran(x, NONE, 0, 100);
            atNode(x, 0, least, 100);
            if (least > 0) {
                x.sets(SOURCE, least - 1);
                ran(x, 0, 2, NONE);
                atNode(x, 0, least - 1, NONE);
                atNode(x, 1, NONE, NONE);
            }
        }
    }

    private static void intakeFarther() {
        DUE.part("if p is below LEAST, at a NODE farther on");
        Hoses x = Hoses.rising(7, 0, 0);
        x.pumps(1);
        x.sets(SOURCE, 12);
        ran(x, NONE, 0, 100);
        atNode(x, 1, 5, 100);
        x.sets(SOURCE, 11);
        ran(x, 1, 2, NONE);
        atNode(x, 0, 11, 11);
        atNode(x, 1, 4, NONE);
        atNode(x, 2, NONE, NONE);
        x.sets(LEAST, 0);
        x.sets(SOURCE, 7);
        ran(x, NONE, 0, 100);
        atNode(x, 1, 0, 100);
    }

    private static void intakeAtTheLast() {
        DUE.part("a PUMP at the last NODE works in a RUN, too, and FAILS there by 2 ahead of 5");
        Hoses x = Hoses.rising(7);
        x.sets(NEED, 100);
        x.pumps(1);
        x.sets(SOURCE, 12);
        ran(x, NONE, 0, 100);
        atNode(x, 1, 5, 100);
        x.sets(SOURCE, 11);
        ran(x, 1, 2, NONE);
        atNode(x, 1, 4, NONE);
        x.pumps(1);
        ran(x, 1, 5, 4);
        atNode(x, 1, 4, 4);
    }

    private static void noIntakeWithoutPump() {
        DUE.part("LEAST is nothing to a NODE without a PUMP");
        Hoses x = Hoses.rising(0, 0);
        x.sets(LEAST, 20);
        x.sets(SOURCE, 0);
        ran(x, NONE, 0, 0);
    }

    private static void out() {
        DUE.part("else p becomes OUT, if that is more");
        Hoses x = Hoses.rising(0);
        x.pumps(0);
        int[][] rows = {{50, 49, 50}, {50, 50, 50}, {50, 51, 51}, {20, 19, 20}, {20, 20, 20}, {20, 21, 21},
            {180, 100, 180}, {100, 99, 100}, {100, 100, 100}, {99, 100, 100}};
        for (int[] row : rows) {
            x.sets(OUT, row[0]);
            x.sets(SOURCE, row[1]);
            atNode(x, 0, row[1], row[2]);
            ran(x, NONE, 0, row[2]);
        }
        x.sets(OUT, 20);
        x.sets(LEAST, 20);
        x.sets(SOURCE, 19);
        ran(x, 0, 2, NONE);
        x.sets(SOURCE, 20);
        ran(x, NONE, 0, 20);
    }

    private static void need() {
        DUE.part("if it is the last NODE: it FAILS there, 5, if p is below NEED");
        for (int spans : new int[] {0, 1, 2, 10}) {
            for (int need : new int[] {0, 1, 30, 99, 100}) {
                Hoses x = Hoses.level(spans);
                x.sets(FLOW, 1);
                x.sets(NEED, need);
                x.sets(SOURCE, need);
                ran(x, NONE, 0, need);
                atNode(x, spans, need, need);
                if (need > 0) {
                    x.sets(SOURCE, need - 1);
                    ran(x, spans, 5, need - 1);
                    atNode(x, spans, need - 1, need - 1);
                }
                if (need < 100) {
                    x.sets(SOURCE, need + 1);
                    ran(x, NONE, 0, need + 1);
                }
            }
        }
    }

    private static void needBehindAPump() {
        DUE.part("5, if p is below NEED, behind a PUMP there");
        Hoses x = Hoses.rising(0);
        x.pumps(1);
        x.sets(NEED, 60);
        x.sets(OUT, 60);
        ran(x, NONE, 0, 60);
        atNode(x, 1, 20, 60);
        x.sets(OUT, 59);
        ran(x, 1, 5, 59);
        atNode(x, 1, 20, 59);
    }

    private static void stands() {
        DUE.part("4 p is above what its SORT STANDS");
        for (int s = 0; s <= 3; s++) {
            Hoses x = new Hoses();
            x.span(1, 3, 0, 0);
            x.span(1, s, 0, 0);
            x.sets(FLOW, 1);
            x.sets(OUT, STANDS[s]);
            x.pumps(0);
            ran(x, NONE, 0, STANDS[s]);
            x.cuts();
            x.cuts();
            x.span(1, 3, -1, 0);
            x.span(1, s, 0, 0);
            ran(x, 1, 4, NONE);
            atNode(x, 1, STANDS[s] + 1, STANDS[s] + 1);
            atNode(x, 2, NONE, NONE);
        }
    }

    private static void standsBehindAPump() {
        DUE.part("4 p is above what its SORT STANDS, behind a PUMP");
        for (int s = 0; s <= 2; s++) {
            Hoses x = new Hoses();
            x.span(1, s, 0, 0);
            x.sets(FLOW, 1);
            x.pumps(0);
            x.sets(OUT, STANDS[s]);
            ran(x, NONE, 0, STANDS[s]);
            x.sets(OUT, STANDS[s] + 1);
            ran(x, 0, 4, NONE);
            atNode(x, 0, 20, STANDS[s] + 1);
            atNode(x, 1, NONE, NONE);
        }
        Hoses x = new Hoses();
        x.span(1, 0, 50, 0);
        x.sets(FLOW, 1);
        x.sets(SOURCE, 100);
        is("p at its beginning, not at its end", x.run(1), 0);
        x.cuts();
        x.span(1, 0, -50, 0);
        ran(x, NONE, 0, 150);
    }

    private static void standsOfATwin() {
        DUE.part("a TWIN one STANDS what its SORT does");
        for (int s = 0; s <= 2; s++) {
            Hoses x = new Hoses();
            x.span(1, s, 0, 1);
            x.sets(FLOW, 1);
            x.pumps(0);
            x.sets(OUT, STANDS[s]);
            is("run(1)", x.run(1), 0);
            x.sets(OUT, STANDS[s] + 1);
            is("run(1)", x.run(1), 4);
        }
    }

    private static void standsNotAtTheLast() {
        DUE.part("at the last NODE no SORT has to stand p");
        Hoses x = Hoses.rising(-50, -50);
        x.sets(SOURCE, 100);
        ran(x, NONE, 0, 200);
        x.span(1, 3, 50, 0);
        ran(x, 2, 4, NONE);
    }

    private static void below0() {
        DUE.part("then p becomes LOSS less; 3 p is below 0 then");
        Hoses x = Hoses.rising(20);
        ran(x, NONE, 0, 0);
        atNode(x, 1, 0, 0);
        x.sets(SOURCE, 19);
        ran(x, 0, 3, NONE);
        atNode(x, 0, 19, 19);
        atNode(x, 1, NONE, NONE);
        x.sets(SOURCE, 0);
        ran(x, 0, 3, NONE);
        Hoses far = Hoses.rising(0, 20, 0);
        ran(far, NONE, 0, 0);
        far.sets(SOURCE, 19);
        ran(far, 1, 3, NONE);
        atNode(far, 1, 19, 19);
        atNode(far, 2, NONE, NONE);
        Hoses from0 = Hoses.rising(0, 0);
        from0.sets(SOURCE, 0);
        ran(from0, NONE, 0, 0);
    }

    private static void firstOf() {
        DUE.part("by the SPAN that begins there it FAILS, the first of: 1, 4, 3");
        Hoses x = new Hoses();
        x.span(30, 0, 50, 0);
        x.sets(OUT, 101);
        x.sets(SPARE, 30);
        x.pumps(0);
        x.bursts(0);
        ran(x, 0, 1, NONE);
        atNode(x, 0, 20, 101);
        x.mends(0);
        ran(x, 0, 4, NONE);
        atNode(x, 0, 20, 101);
        x.sets(OUT, 100);
        ran(x, 0, 3, NONE);
        atNode(x, 0, 20, 100);
        x.bursts(0);
        ran(x, 0, 1, NONE);
        Hoses whole = Hoses.rising(0, 0);
        whole.bursts(1);
        ran(whole, 1, 1, NONE);
        whole.cuts();
        ran(whole, NONE, 0, 20);
    }

    private static void intakeAheadOfAll() {
        DUE.part("2 comes ahead of what the SPAN does");
        Hoses x = Hoses.rising(50);
        x.sets(LEAST, 20);
        x.sets(SOURCE, 19);
        x.pumps(0);
        x.bursts(0);
        ran(x, 0, 2, NONE);
        x.sets(SOURCE, 20);
        ran(x, 0, 1, NONE);
        atNode(x, 0, 20, 100);
    }

    private static void noFurther() {
        DUE.part("it goes no further where it FAILS");
        int[][] rises = {{0, 0, 0}, {7, 0, 0}, {0, 50, 0}, {-50, 0, 0}};
        for (int how = 1; how <= 4; how++) {
            Hoses x = Hoses.rising(rises[how - 1]);
            if (how == 1) {
                x.bursts(1);
            } else if (how == 2) {
                x.pumps(1);
                x.sets(SOURCE, 11);
            } else if (how == 4) {
                x.pumps(0);
                x.sets(OUT, 131);
            }
            is("run(0)", x.run(0), 1);
            is("run(1)", x.run(1), how);
            is("run(2)", x.run(2), NONE);
            DUE.holds("p at NODE 0", x.node(0, 0) != NONE && x.node(0, 1) != NONE);
            DUE.holds("p at NODE 1", x.node(1, 0) != NONE);
            is("p behind NODE 1 is told", x.node(1, 1) == NONE ? 0 : 1, how == 2 ? 0 : 1);
            atNode(x, 2, NONE, NONE);
            atNode(x, 3, NONE, NONE);
        }
    }

    private static void firstNodeThatFails() {
        DUE.part("where it FAILS: the NODE");
        Hoses x = Hoses.level(10);
        x.sets(FLOW, 1);
        for (int i = 9; i >= 0; i--) {
            x.bursts(i);
            ran(x, i, 1, NONE);
            atNode(x, i, 20, 20);
            if (i < 9) {
                atNode(x, i + 1, NONE, NONE);
            }
        }
    }

    private static void met() {
        DUE.part("MET: it FAILS nowhere: 0");
        Hoses x = Hoses.level(10);
        x.sets(NEED, 0);
        ran(x, NONE, 0, 0);
        for (int i = 0; i <= 10; i++) {
            atNode(x, i, 20 - 2 * i, 20 - 2 * i);
        }
    }

    private static void noSpans() {
        DUE.part("the last NODE has the NOZZLE (NODE 0, if there are no SPANS)");
        Hoses x = new Hoses();
        ran(x, 0, 5, 20);
        atNode(x, 0, 20, 20);
        x.sets(NEED, 20);
        ran(x, NONE, 0, 20);
        x.sets(NEED, 21);
        ran(x, 0, 5, 20);
        is("most()", x.most(), NONE);
        is("fewest(1, 0)", x.fewest(1, 0), NONE);
        x.pumps(0);
        ran(x, NONE, 0, 100);
        atNode(x, 0, 20, 100);
        is("most()", x.most(), 30);
        is("fewest(1, 0): the last NODE has none", x.fewest(1, 0), NONE);
        x.sets(SOURCE, 4);
        ran(x, 0, 2, NONE);
        atNode(x, 0, 4, NONE);
        x.sets(NEED, 4);
        is("fewest(1, 0)", x.fewest(1, 0), 0);
        is("fewest(1, 1)", x.fewest(1, 1), 0);
        is("most() with the PUMP", x.most(), NONE);
    }

    private static void noneNeeded() {
        DUE.part("FEWEST: no NODES at all");
        for (int spans : new int[] {0, 1, 10}) {
            Hoses x = Hoses.level(spans);
            x.sets(NEED, 20);
            is("fewest(1, 0)", x.fewest(1, 0), 0);
            is("fewest(1, 1)", x.fewest(1, 1), 0);
            x.sets(NEED, 21);
            is("fewest(1, 0)", x.fewest(1, 0), spans == 0 ? NONE : 1);
            is("fewest(1, 1)", x.fewest(1, 1), spans == 0 ? NONE : 1);
        }
    }

    private static void notTheLastOne() {
        DUE.part("of all sets of NODES but the last one");
        Hoses x = Hoses.rising(1);
        x.sets(NEED, 99);
        is("fewest(1, 1)", x.fewest(1, 1), 1);
        x.sets(NEED, 100);
        is("fewest(1, 1)", x.fewest(1, 1), NONE);
        is("fewest(1, 0)", x.fewest(1, 0), NONE);
        is("lays()", x.lays(), NO);
        x.pumps(1);
        ran(x, NONE, 0, 100);
        is("fewest(1, 0)", x.fewest(1, 0), NONE);
        is("lays()", x.lays(), NO);
        x.span(1, 3, 0, 0);
        is("fewest(1, 1), once it is not the last", x.fewest(1, 1), 2);
    }

    private static void pumpsDoNotMatter() {
        DUE.part("PUMPS as they are do not matter");
        Hoses x = Hoses.rising(1, 1, 1);
        x.sets(NEED, 98);
        for (int set = 0; set < 16; set++) {
            is("count(1)", x.count(1), set);
            is("fewest(1, 0)", x.fewest(1, 0), 1);
            is("fewest(1, 1)", x.fewest(1, 1), 2);
            is("count(1)", x.count(1), set);
            int turned = set ^ (set + 1);
            for (int i = 0; i < 4; i++) {
                if ((turned >> i) % 2 == 1) {
                    x.pumps(i);
                }
            }
        }
    }

    /** Without PUMPS p is 20, 4, 14, 14: at NODE 1 it is below LEAST; {0} ends with 94, {0, 1} with 110, {2} with 100. */
    private static void fewestAheadOfLeast() {
        DUE.part("that with the fewest NODES, ahead of the least as bits");
        Hoses x = Hoses.rising(16, -10, 0);
        x.sets(NEED, 100);
        is("fewest(1, 0)", x.fewest(1, 0), 1);
        is("fewest(1, 1)", x.fewest(1, 1), 4);
        x.sets(NEED, 94);
        is("fewest(1, 1)", x.fewest(1, 1), 1);
        x.sets(NEED, 95);
        is("fewest(1, 1)", x.fewest(1, 1), 4);
        x.sets(OUT, 95);
        is("fewest(1, 1)", x.fewest(1, 1), 4);
        x.sets(OUT, 94);
        is("fewest(1, 0)", x.fewest(1, 0), 2);
        is("fewest(1, 1)", x.fewest(1, 1), 3);
        x.sets(OUT, 84);
        is("fewest(1, 1)", x.fewest(1, 1), NONE);
        x.sets(OUT, 85);
        is("fewest(1, 1)", x.fewest(1, 1), 3);
    }

    private static void leastAsBits() {
        DUE.part("of like ones the least as bits (NODE i bit i)");
        for (int i = 0; i < 10; i++) {
            int[] rises = new int[10];
            for (int k = 0; k < 10; k++) {
                rises[k] = k < i ? 1 : 0;
            }
            Hoses x = Hoses.rising(rises);
            x.sets(NEED, 100);
            is("fewest(1, 0), one of NODE " + i + " on", x.fewest(1, 0), 1);
            is("fewest(1, 1), one of NODE " + i + " on", x.fewest(1, 1), 1 << i);
        }
        Hoses x = Hoses.rising(39, 39, 39, 39);
        x.sets(SOURCE, 60);
        is("fewest(1, 0)", x.fewest(1, 0), 2);
        is("fewest(1, 1): of {0, 2}, {1, 2}, {1, 3} the least", x.fewest(1, 1), 5);
        x.sets(NEED, 23);
        is("fewest(1, 1): of {1, 3}, {0, 2} left is {1, 3}", x.fewest(1, 1), 10);
        x.sets(NEED, 22);
        is("fewest(1, 1): {0, 2} ends with 22", x.fewest(1, 1), 5);
    }

    private static void allTen() {
        DUE.part("a PUMP at each of ten NODES");
        Hoses x = Hoses.rising(16, 20, 20, 20, 20, 20, 20, 20, 20, 20);
        x.sets(OUT, 25);
        is("fewest(1, 0)", x.fewest(1, 0), 10);
        is("fewest(1, 1)", x.fewest(1, 1), 1023);
        is("lays()", x.lays(), 10);
        is("count(1)", x.count(1), 1023);
        ran(x, NONE, 0, 5);
        x.sets(NEED, 5);
        is("fewest(1, 0)", x.fewest(1, 0), 10);
        x.sets(NEED, 6);
        is("fewest(1, 0)", x.fewest(1, 0), NONE);
        is("fewest(1, 1)", x.fewest(1, 1), NONE);
    }

    private static void noSet() {
        DUE.part("NONE: there is no such set");
        Hoses x = Hoses.rising(0, 0);
        x.bursts(0);
        is("fewest(1, 0)", x.fewest(1, 0), NONE);
        is("fewest(1, 1)", x.fewest(1, 1), NONE);
        is("told(0)", x.told(0), 0);
        Hoses high = new Hoses();
        high.span(1, 3, -1, 0);
        high.span(1, 0, 0, 0);
        high.sets(SOURCE, 100);
        is("4 at NODE 1 by any set", high.fewest(1, 0), NONE);
        high.sets(SOURCE, 99);
        is("fewest(1, 0)", high.fewest(1, 0), 0);
    }

    private static void byItsFlow() {
        DUE.part("FEWEST by a FLOW, not by the SETTING");
        Hoses x = Hoses.level(1);
        x.sets(NEED, 20);
        x.sets(FLOW, 30);
        is("fewest(7, 0)", x.fewest(7, 0), 0);
        is("fewest(8, 0)", x.fewest(8, 0), 1);
        x.sets(NEED, 82);
        is("fewest(30, 1)", x.fewest(30, 1), 1);
        x.sets(NEED, 83);
        is("fewest(30, 1)", x.fewest(30, 1), NONE);
        is("fewest(29, 1)", x.fewest(29, 1), 1);
        x.sets(FLOW, 1);
        is("fewest(30, 1)", x.fewest(30, 1), NONE);
        is("fewest(29, 1)", x.fewest(29, 1), 1);
    }

    private static void lays() {
        DUE.part("lays: PUMPS become those of FEWEST: how many; NO: there is no such set");
        Hoses x = Hoses.rising(1, 1, 1);
        x.pumps(0);
        x.pumps(3);
        x.sets(NEED, 98);
        is("lays()", x.lays(), 1);
        is("count(1)", x.count(1), 2);
        x.sets(NEED, 17);
        is("lays() of none is no refusal", x.lays(), 0);
        is("count(1)", x.count(1), 0);
        is("told(1)", x.told(1), 0);
        x.pumps(3);
        x.sets(NEED, 100);
        int states = x.told(4);
        is("lays()", x.lays(), NO);
        is("count(1)", x.count(1), 8);
        is("told(1)", x.told(1), 1);
        is("told(4)", x.told(4), states);
        x.sets(NEED, 99);
        is("lays()", x.lays(), 1);
        is("count(1)", x.count(1), 4);
    }

    private static void laysByFlow() {
        DUE.part("lays: by FLOW");
        Hoses x = Hoses.level(1);
        x.sets(NEED, 20);
        x.sets(FLOW, 8);
        is("lays()", x.lays(), 1);
        x.sets(FLOW, 7);
        is("lays()", x.lays(), 0);
        x.sets(NEED, 83);
        x.sets(FLOW, 30);
        is("lays()", x.lays(), NO);
        x.sets(FLOW, 29);
        is("lays()", x.lays(), 1);
    }

    private static void mostAtTheTop() {
        DUE.part("MOST: the greatest FLOW, 30 and 29");
        Hoses x = Hoses.level(1);
        x.pumps(0);
        x.sets(NEED, 82);
        is("most()", x.most(), 30);
        x.sets(NEED, 83);
        is("most()", x.most(), 29);
        x.sets(NEED, 0);
        is("most(): no FLOW above 30", x.most(), 30);
    }

    private static void mostAtTheBottom() {
        DUE.part("MOST: the greatest FLOW, 1 and none");
        Hoses x = new Hoses();
        x.span(25, 0, 0, 0);
        x.sets(NEED, 0);
        x.sets(SOURCE, 79);
        is("most(): 80 are lost by 2", x.most(), 1);
        x.sets(SOURCE, 80);
        is("most()", x.most(), 2);
        x.sets(SOURCE, 20);
        is("most(): 20 are lost by 1", x.most(), 1);
        x.sets(SOURCE, 19);
        is("most()", x.most(), NONE);
        is("told", x.told(0) + x.told(1) + x.told(2), 0);
    }

    /** By FLOW 7 p is 101 at the third SPAN, which stands 100; by 8 it is 100. */
    private static void mostNotByLess() {
        DUE.part("MOST: the greatest, though less is not met");
        Hoses x = new Hoses();
        x.span(1, 3, -1, 0);
        x.span(1, 3, 0, 1);
        x.span(1, 0, -50, 1);
        x.sets(SOURCE, 100);
        x.sets(NEED, 0);
        x.sets(FLOW, 7);
        ran(x, 2, 4, NONE);
        x.sets(FLOW, 8);
        is("run(1)", x.run(1), 0);
        is("most()", x.most(), 26);
    }

    private static void mostByPumps() {
        DUE.part("MOST: with the PUMPS that there are is MET");
        Hoses x = Hoses.level(1);
        x.sets(NEED, 100);
        is("most()", x.most(), NONE);
        x.pumps(0);
        is("most() of a PUMP at NODE 0", x.most(), 7);
        x.pumps(0);
        x.pumps(1);
        is("most() of one at the last NODE: 5 are left of 20", x.most(), 28);
        is("fewest(8, 0)", x.fewest(8, 0), NONE);
        x.sets(LEAST, 0);
        is("most() of one at the last NODE", x.most(), 30);
        x.bursts(0);
        is("most() past a BURST one", x.most(), NONE);
    }

    private static void mostNotByFlow() {
        DUE.part("MOST: the SETTING FLOW does not matter");
        Hoses x = Hoses.level(1);
        x.sets(NEED, 18);
        for (int q = 1; q <= 30; q++) {
            x.sets(FLOW, q);
            is("most() at FLOW " + q, x.most(), 12);
        }
        is("count(4)", x.count(4), 30);
    }
}
