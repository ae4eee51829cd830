import java.util.TreeSet;
import java.util.function.Supplier;

/**
 * Each number of each call: every value from the least to the greatest that the document names is taken, those below
 * and above are refused by BAD, and nothing is other behind a refusal but how often.
 */
public final class BoundsTest {
    private static final int BAD = -1000002, NO = -1000003, FULL = -1000004;
    private static final int MIN = Integer.MIN_VALUE, MAX = Integer.MAX_VALUE;
    private static final int BEYOND = 40;
    private static final Due DUE = new Due("BoundsTest");

    private BoundsTest() {
    }

    private interface Call {
        int on(Hoses x, int v);
    }

    public static void main(String[] args) {
        span();
        sets();
        nodesAndSpans();
        whats();
        flows();
        shuttle();
        tanks();
        type();
        ordersOfSpans();
        ordersOfSettings();
        ordersOfPlaces();
        DUE.end();
    }

    /** Three SPANS of which one is BURST, a PUMP, SPARE, THE TEXT "c;", and one STATE. */
    private static Hoses line() {
        Hoses x = new Hoses();
        x.does("h2 3-1 0;h1 2 3 1;h4 1 0 0;x1;p2;k5 9;");
        x.write("c;");
        return x;
    }

    private static Hoses burstLine(int n) {
        Hoses x = Hoses.level(n);
        x.sets(5, 99);
        for (int i = 0; i < n; i++) {
            x.bursts(i);
        }
        return x;
    }

    /** Values on both sides of both bounds, and such as come to be within them by a wrap-around. */
    private static TreeSet<Integer> values(int lowest, int highest) {
        TreeSet<Integer> all = new TreeSet<>();
        for (int n = -BEYOND; n <= BEYOND; n++) {
            all.add(lowest + n);
            all.add(highest + n);
        }
        for (int wrap : new int[] {1 << 5, 1 << 6, 1 << 7, 1 << 8, 1 << 15, 1 << 16, 1 << 31, 1000}) {
            all.add(lowest + wrap);
            all.add(highest + wrap);
            all.add(lowest - wrap);
        }
        for (int v : new int[] {MIN, MIN + 1, -1000001, BAD, NO, FULL, MAX - 1, MAX}) {
            all.add(v);
        }
        return all;
    }

    private static void range(String call, int lowest, int highest, Supplier<Hoses> made, Call c) {
        for (int v : values(lowest, highest)) {
            Hoses x = made.get();
            String name = call + " of " + v;
            if (v >= lowest && v <= highest) {
                int answer = c.on(x, v);
                DUE.holds(name + " is taken, not " + answer, answer != BAD && answer != NO && answer != FULL);
                DUE.is("told(0) then", x.told(0), 0);
            } else {
                refused(name, x, v, c);
            }
        }
    }

    private static void refused(String name, Hoses x, int v, Call c) {
        String was = x.seen();
        int states = x.told(4);
        int bytes = x.told(3);
        DUE.is(name, c.on(x, v), BAD);
        DUE.is("told(0) then", x.told(0), 1);
        DUE.is("told(1) then", x.told(1), 0);
        DUE.is("told(2) then", x.told(2), 0);
        DUE.is("told(3) then", x.told(3), bytes);
        DUE.is("told(4) then", x.told(4), states);
        DUE.holds("all is as it was", x.seen().equals(was));
    }

    private static void span() {
        DUE.part("a SPAN has LENGTHS (1 .. 30)");
        range("span m", 1, 30, BoundsTest::line, (x, v) -> x.span(v, 0, 0, 0));
        DUE.part("a SORT (0 .. 3)");
        range("span s", 0, 3, BoundsTest::line, (x, v) -> x.span(1, v, 0, 0));
        DUE.part("a RISE (-50 .. 50)");
        range("span r", -50, 50, BoundsTest::line, (x, v) -> x.span(1, 0, v, 0));
        DUE.part("TWIN (t 1) or not (0)");
        range("span t", 0, 1, BoundsTest::line, (x, v) -> x.span(1, 0, 0, v));
        DUE.part("what a SPAN is told with it has");
        for (int[] s : new int[][] {{1, 0, -50, 0}, {30, 3, 50, 1}, {1, 3, -50, 1}, {30, 0, 50, 0}}) {
            Hoses x = line();
            DUE.is("span", x.span(s[0], s[1], s[2], s[3]), 3);
            for (int what = 0; what <= 3; what++) {
                DUE.is("of(3, " + what + ")", x.of(3, what), s[what]);
            }
            DUE.is("of(3, 4): WHOLE at first", x.of(3, 4), 0);
        }
    }

    private static void sets() {
        DUE.part("SETTINGS 0 to 5");
        range("sets k", 0, 5, BoundsTest::line, (x, v) -> x.sets(v, 20));
        int[] first = {10, 20, 30, 100, 5, 0};
        int[] least = {1, 0, 0, 20, 0, 0};
        int[] most = {30, 100, 100, 180, 20, 99};
        for (int each = 0; each <= 5; each++) {
            int k = each;
            DUE.part("SETTING " + k + " (" + least[k] + " .. " + most[k] + "; " + first[k] + ")");
            DUE.is("count at first", new Hoses().count(4 + k), first[k]);
            range("sets " + k, least[k], most[k], BoundsTest::line, (x, v) -> x.sets(k, v));
            Hoses x = new Hoses();
            DUE.is("sets to the least", x.sets(k, least[k]), first[k]);
            DUE.is("count", x.count(4 + k), least[k]);
            DUE.is("sets to the greatest", x.sets(k, most[k]), least[k]);
            DUE.is("count", x.count(4 + k), most[k]);
            for (int other = 0; other <= 5; other++) {
                DUE.is("count of " + other, x.count(4 + other), other == k ? most[k] : first[other]);
            }
        }
    }

    /** NODES are one more than SPANS: with none, one and ten of them. */
    private static void nodesAndSpans() {
        for (int each : new int[] {0, 1, 2, 9, 10}) {
            int n = each;
            DUE.part("of " + n + " SPANS");
            range("pumps", 0, n, () -> Hoses.level(n), (x, v) -> x.pumps(v));
            range("node i", 0, n, () -> Hoses.level(n), (x, v) -> x.node(v, 0));
            range("node i behind", 0, n, () -> Hoses.level(n), (x, v) -> x.node(v, 1));
            range("bursts", 0, n - 1, () -> Hoses.level(n), (x, v) -> x.bursts(v));
            range("mends", 0, n - 1, () -> burstLine(n), (x, v) -> x.mends(v));
            range("of i", 0, n - 1, () -> Hoses.level(n), (x, v) -> x.of(v, 0));
            range("loss i", 0, n - 1, () -> Hoses.level(n), (x, v) -> x.loss(v, 10));
        }
    }

    private static void whats() {
        DUE.part("what can be asked");
        range("of what", 0, 4, BoundsTest::line, (x, v) -> x.of(2, v));
        range("node what", 0, 1, BoundsTest::line, (x, v) -> x.node(3, v));
        range("run what", 0, 2, BoundsTest::line, (x, v) -> x.run(v));
        range("fewest what", 0, 1, BoundsTest::line, (x, v) -> x.fewest(10, v));
        range("count what", 0, 10, BoundsTest::line, (x, v) -> x.count(v));
        range("told what", 0, 4, BoundsTest::line, (x, v) -> x.told(v));
    }

    private static void flows() {
        DUE.part("a FLOW (1 .. 30)");
        range("loss q", 1, 30, BoundsTest::line, (x, v) -> x.loss(2, v));
        range("fewest q", 1, 30, BoundsTest::line, (x, v) -> x.fewest(v, 0));
        range("fewest q for bits", 1, 30, BoundsTest::line, (x, v) -> x.fewest(v, 1));
    }

    private static void shuttle() {
        DUE.part("TANKS (1 .. 20), each of v, minutes each (1 .. 99)");
        range("shuttle k", 1, 20, BoundsTest::line, (x, v) -> x.shuttle(v, 9, 9, 9, 9));
        range("shuttle v", 1, 99, BoundsTest::line, (x, v) -> x.shuttle(9, v, 9, 9, 9));
        range("shuttle a", 1, 99, BoundsTest::line, (x, v) -> x.shuttle(9, 9, v, 9, 9));
        range("shuttle d", 1, 99, BoundsTest::line, (x, v) -> x.shuttle(9, 9, 9, v, 9));
        range("shuttle e", 1, 99, BoundsTest::line, (x, v) -> x.shuttle(9, 9, 9, 9, v));
    }

    private static void tanks() {
        DUE.part("the fewest TANKS for w (1 .. 9999)");
        range("tanks w", 1, 9999, BoundsTest::line, (x, v) -> x.tanks(v, 99, 1, 1, 1));
        range("tanks v", 1, 99, BoundsTest::line, (x, v) -> x.tanks(9, v, 9, 9, 9));
        range("tanks a", 1, 99, BoundsTest::line, (x, v) -> x.tanks(9, 9, v, 9, 9));
        range("tanks d", 1, 99, BoundsTest::line, (x, v) -> x.tanks(9, 9, 9, v, 9));
        range("tanks e", 1, 99, BoundsTest::line, (x, v) -> x.tanks(9, 9, 9, 9, v));
    }

    private static void type() {
        DUE.part("a byte (0 .. 127)");
        range("type", 0, 127, BoundsTest::line, (x, v) -> x.type(v));
    }

    /** An ORDER is refused where its call would be: held for every number of up to three figures. */
    private static void order(String text, int answer, boolean isTaken, Hoses x) {
        String was = x.seen();
        DUE.is("does() of " + text, x.does(text), isTaken ? 1 : -1000);
        DUE.is("told(0)", x.told(0), 0);
        DUE.holds("the call itself, " + answer, isTaken == (answer != BAD));
        if (!isTaken) {
            DUE.holds("nothing is done by " + text, x.seen().equals(was));
        }
    }

    private static void ordersOfSpans() {
        DUE.part("h m s r t");
        for (int v = 0; v <= 999; v++) {
            order("h" + v + " 0 0 0;", line().span(v, 0, 0, 0), v >= 1 && v <= 30, line());
            order("h1 " + v + " 0 0;", line().span(1, v, 0, 0), v <= 3, line());
            order("h1 0 " + v + " 0;", line().span(1, 0, v, 0), v <= 50, line());
            order("h1 0-" + v + " 0;", line().span(1, 0, -v, 0), v <= 50, line());
            order("h1 0 0 " + v + ";", line().span(1, 0, 0, v), v <= 1, line());
        }
    }

    private static void ordersOfSettings() {
        DUE.part("k s v");
        int[] least = {1, 0, 0, 20, 0, 0};
        int[] most = {30, 100, 100, 180, 20, 99};
        for (int v = 0; v <= 999; v++) {
            order("k" + v + " 20;", line().sets(v, 20), v <= 5, line());
            for (int k = 0; k <= 5; k++) {
                order("k" + k + " " + v + ";", line().sets(k, v), v >= least[k] && v <= most[k], line());
            }
        }
    }

    private static void ordersOfPlaces() {
        DUE.part("p i, x i, m i");
        for (int v = 0; v <= 999; v++) {
            order("p" + v + ";", line().pumps(v), v <= 3, line());
            order("x" + v + ";", line().bursts(v), v <= 2, line());
            order("m" + v + ";", burstLine(3).mends(v), v <= 2, burstLine(3));
        }
    }
}
