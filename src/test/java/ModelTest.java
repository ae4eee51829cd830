import java.util.Random;

/** Random runs of 512 calls on a new object each, each answer held against the model's. */
public final class ModelTest {
    private static final int RUNS = 1200;
    private static final int LINES = 3000;
    /** More than one call() below can ask for. */
    private static final int ENOUGH = 40;
    private static final int[] EDGES = {Integer.MIN_VALUE, -1000001, -51, -2, -1, 0, 1, 2, 3, 4, 5, 6, 9, 10, 11, 12,
        19, 20, 21, 30, 31, 50, 51, 99, 100, 101, 120, 127, 128, 180, 181, 9999, 10000, 65536, Integer.MAX_VALUE};

    private final Random random;
    private final Hoses x = new Hoses();
    private final Model y = new Model();
    private final Due due;
    private final boolean gentle;

    private ModelTest(long seed, Due due) {
        this.random = new Random(seed);
        this.due = due;
        this.gentle = seed % 2 == 0;
        due.part("seed " + seed);
    }

    public static void main(String[] args) {
        Due due = new Due("ModelTest");
        for (int seed = 0; seed < RUNS && due.wrong() == 0; seed++) {
            new ModelTest(seed, due).calls();
        }
        for (int seed = 0; seed < LINES && due.wrong() == 0; seed++) {
            new ModelTest(seed, due).pumpsOfOneLine();
        }
        due.end();
    }

    private int in(int lo, int hi) {
        return lo + random.nextInt(hi - lo + 1);
    }

    /** A number in the range, or, rarely, one from anywhere. */
    private int or(int lo, int hi) {
        return random.nextInt(40) == 0 ? EDGES[random.nextInt(EDGES.length)] : in(lo, hi);
    }

    private int spans() {
        return y.count(2);
    }

    private void calls() {
        while (x.left() > ENOUGH && due.wrong() == 0) {
            call();
        }
        while (x.left() > 1 && due.wrong() == 0) {
            ask();
        }
        due.is("digest()", x.digest(), y.digest());
    }

    private void call() {
        int kind = in(0, 99);
        if (kind < 34) {
            tellIn();
        } else if (kind < 64) {
            ask();
        } else if (kind < 70) {
            trip();
        } else if (kind < 91) {
            write();
        } else if (kind < 95) {
            due.is("does()", x.does(), y.does());
        } else if (kind < 98) {
            due.is("back()", x.back(), y.back());
        } else {
            due.is("digest()", x.digest(), y.digest());
        }
    }

    private void tellIn() {
        int kind = in(0, 99);
        if (kind < 38) {
            int m = or(1, gentle ? 12 : 30);
            int s = or(gentle ? 1 : 0, 3);
            int r = or(gentle ? -30 : -50, gentle ? 30 : 50);
            int t = or(0, 1);
            due.is("span(" + m + "," + s + "," + r + "," + t + ")", x.span(m, s, r, t), y.span(m, s, r, t));
        } else if (kind < 46) {
            due.is("cuts()", x.cuts(), y.cuts());
        } else if (kind < 62) {
            int k = or(0, 5);
            int v = random.nextInt(3) == 0 ? EDGES[random.nextInt(EDGES.length)] : in(0, k == 0 ? 20 : 100);
            due.is("sets(" + k + "," + v + ")", x.sets(k, v), y.sets(k, v));
        } else if (kind < 76) {
            int i = or(0, spans());
            due.is("pumps(" + i + ")", x.pumps(i), y.pumps(i));
        } else if (kind < 80) {
            int i = or(0, Math.max(0, spans() - 1));
            due.is("bursts(" + i + ")", x.bursts(i), y.bursts(i));
        } else if (kind < 88) {
            int i = or(0, Math.max(0, spans() - 1));
            due.is("mends(" + i + ")", x.mends(i), y.mends(i));
        } else {
            due.is("lays()", x.lays(), y.lays());
        }
    }

    private void ask() {
        int i = or(0, Math.max(0, spans() - 1));
        int q = or(1, gentle ? 12 : 30);
        int what = or(0, 2);
        int fact = or(0, 4);
        switch (in(0, 7)) {
            case 0: due.is("of", x.of(i, fact), y.of(i, fact)); break;
            case 1: due.is("loss", x.loss(i, q), y.loss(i, q)); break;
            case 2: due.is("node", x.node(i + 1, what), y.node(i + 1, what)); break;
            case 3: due.is("run", x.run(what), y.run(what)); break;
            case 4: due.is("fewest", x.fewest(q, what), y.fewest(q, what)); break;
            case 5: due.is("most", x.most(), y.most()); break;
            case 6: due.is("count", x.count(q), y.count(q)); break;
            default: due.is("told", x.told(i), y.told(i)); break;
        }
    }

    /** SETTINGS from their whole ranges, by which sets of up to eight PUMPS come to be FEWEST. */
    private void pumpsOfOneLine() {
        for (int n = in(0, 10); n > 0; n--) {
            int m = in(1, 15);
            int s = in(1, 3);
            int r = in(-40, 40);
            int t = in(0, 1);
            due.is("span", x.span(m, s, r, t), y.span(m, s, r, t));
        }
        int[] settings = {in(1, 12), in(0, 100), in(0, 100), in(20, 180), in(0, 20)};
        for (int k = 0; k < settings.length; k++) {
            due.is("sets", x.sets(k, settings[k]), y.sets(k, settings[k]));
        }
        for (int n = 0; n < 3; n++) {
            int i = in(0, spans());
            due.is("pumps", x.pumps(i), y.pumps(i));
        }
        due.is("most", x.most(), y.most());
        for (int q = 1; q <= 30; q += 3) {
            due.is("fewest(" + q + ", 1)", x.fewest(q, 1), y.fewest(q, 1));
        }
        due.is("lays", x.lays(), y.lays());
        due.is("digest", x.digest(), y.digest());
    }

    private void trip() {
        int k = or(1, 20);
        int w = or(1, random.nextInt(2) == 0 ? 300 : 9999);
        int v = or(1, 99);
        int a = or(1, random.nextInt(2) == 0 ? 9 : 99);
        int d = or(1, 99);
        int e = or(1, 99);
        due.is("shuttle", x.shuttle(k, v, a, d, e), y.shuttle(k, v, a, d, e));
        due.is("tanks", x.tanks(w, v, a, d, e), y.tanks(w, v, a, d, e));
    }

    private void write() {
        int kind = in(0, 99);
        if (kind < 8) {
            due.is("clear()", x.clear(), y.clear());
        } else if (kind < 12) {
            type(or(0, 127));
        } else {
            String order = order();
            if (random.nextInt(12) == 0) {
                int at = in(0, order.length() - 1);
                order = order.substring(0, at) + " -0159;;hkpxmcz".charAt(in(0, 14)) + order.substring(at + in(0, 1));
            }
            for (int n = 0; n < order.length(); n++) {
                type(order.charAt(n));
            }
            if (random.nextInt(3) == 0) {
                due.is("does()", x.does(), y.does());
                due.is("clear()", x.clear(), y.clear());
            }
        }
    }

    private void type(int c) {
        due.is("type(" + c + ")", x.type(c), y.type(c));
    }

    private String order() {
        switch (in(0, 7)) {
            case 0: case 1: case 2:
                return "h" + blank() + in(1, 15) + " " + in(0, 3) + (random.nextBoolean() ? " " + in(0, 30) : "-" + in(0, 30))
                    + blank() + " " + in(0, 1) + blank() + ";" + blank();
            case 3: return "k" + blank() + in(0, 5) + " " + blank() + in(0, 100) + ";";
            case 4: return "p" + blank() + in(0, spans()) + blank() + ";";
            case 5: return blank() + "x" + in(0, spans()) + ";";
            case 6: return "m" + blank() + in(0, spans()) + ";";
            default: return "c" + blank() + ";";
        }
    }

    private String blank() {
        return random.nextInt(3) == 0 ? " ".repeat(in(1, 2)) : "";
    }
}
