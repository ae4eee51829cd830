import java.util.ArrayList;
import java.util.List;
import java.util.regex.Matcher;
import java.util.regex.Pattern;

/** The document once more, with the Java library, whole copies and every set of PUMPS tried. */
final class Model {
    static final int NONE = -1000001, BAD = -1000002, NO = -1000003, FULL = -1000004;

    record Span(int m, int s, int h, boolean twin, boolean burst) {
        int hoses() {
            return twin ? 2 * m : m;
        }

        int loss(int q) {
            long f = twin ? q / 2 + q % 2 : q;
            long hard = List.of(80, 20, 8, 2).get(s);
            return (int) (m * hard * f * f / 100) + h;
        }

        int stands() {
            return List.of(100, 120, 150, 180).get(s);
        }

        Span as(boolean nowBurst) {
            return new Span(m, s, h, twin, nowBurst);
        }
    }

    record State(List<Span> spans, List<Integer> pumps, List<Integer> settings) {
    }

    /** A RUN that has ended: the last node got to, how it failed, p at each node. */
    record Ran(int where, int how, List<Integer> in, List<Integer> behind) {
    }

    private static final int[][] RANGES = {{1, 30}, {0, 100}, {0, 100}, {20, 180}, {0, 20}, {0, 99}};
    private static final String N = "[0-9]{1,3}";
    private static final Pattern ORDER = Pattern.compile(
        "h *" + N + " +" + N + "(?: +| *(?=-))-?" + N + " +" + N + " *;"
        + "|k *" + N + " +" + N + " *;|[pxm] *" + N + " *;|c *;");
    private static final Pattern TEXT = Pattern.compile(" *(?:(?:" + ORDER.pattern() + ") *)+");

    private List<Span> spans = new ArrayList<>();
    private List<Integer> pumps = new ArrayList<>();
    private List<Integer> settings = new ArrayList<>(List.of(10, 20, 30, 100, 5, 0));
    private final List<State> states = new ArrayList<>();
    private final StringBuilder text = new StringBuilder();
    private final int[] refused = new int[3];

    private static boolean out(int v, int lo, int hi) {
        return v < lo || v > hi;
    }

    private int refuse(int how) {
        refused[BAD - how]++;
        return how;
    }

    private State copy() {
        return new State(new ArrayList<>(spans), new ArrayList<>(pumps), new ArrayList<>(settings));
    }

    private void put(State s) {
        spans = new ArrayList<>(s.spans());
        pumps = new ArrayList<>(s.pumps());
        settings = new ArrayList<>(s.settings());
    }

    private void leave(State s) {
        states.add(s);
        if (states.size() > 5) {
            states.remove(0);
        }
    }

    private int order(char c, int... a) {
        switch (c) {
            case 'h':
                if (out(a[0], 1, 30) || out(a[1], 0, 3) || out(a[2], -50, 50) || out(a[3], 0, 1)) return BAD;
                if (spans.size() == 10) return FULL;
                spans.add(new Span(a[0], a[1], a[2], a[3] == 1, false));
                return spans.size() - 1;
            case 'c':
                if (spans.isEmpty()) return NO;
                pumps.remove((Integer) spans.size());
                spans.remove(spans.size() - 1);
                return spans.size();
            case 'k':
                if (out(a[0], 0, 5) || out(a[1], RANGES[a[0]][0], RANGES[a[0]][1])) return BAD;
                return settings.set(a[0], a[1]);
            case 'p':
                if (out(a[0], 0, spans.size())) return BAD;
                if (!pumps.remove((Integer) a[0])) pumps.add(a[0]);
                return pumps.size();
            case 'x': {
                if (out(a[0], 0, spans.size() - 1)) return BAD;
                boolean was = spans.get(a[0]).burst();
                spans.set(a[0], spans.get(a[0]).as(true));
                return was ? 0 : 1;
            }
            case 'm': {
                if (out(a[0], 0, spans.size() - 1)) return BAD;
                Span s = spans.get(a[0]);
                if (!s.burst() || settings.get(5) < s.hoses()) return NO;
                spans.set(a[0], s.as(false));
                settings.set(5, settings.get(5) - s.hoses());
                return settings.get(5);
            }
            default: {
                int bits = best(settings.get(0));
                if (bits < 0) return NO;
                pumps = new ArrayList<>();
                for (int i = 0; i < spans.size(); i++) if ((bits >> i) % 2 == 1) pumps.add(i);
                return pumps.size();
            }
        }
    }

    private int tell(char c, int... a) {
        State s = copy();
        int answer = order(c, a);
        if (answer <= BAD) return refuse(answer);
        leave(s);
        return answer;
    }

    private int bits() {
        int b = 0;
        for (int i : pumps) b += 1 << i;
        return b;
    }

    private Ran ran(int q, int set) {
        List<Integer> in = new ArrayList<>();
        List<Integer> behind = new ArrayList<>();
        int p = settings.get(1);
        for (int i = 0; ; i++) {
            in.add(p);
            if ((set >> i) % 2 == 1) {
                if (p < settings.get(4)) return new Ran(i, 2, in, behind);
                if (settings.get(3) > p) p = settings.get(3);
            }
            behind.add(p);
            if (i == spans.size()) return p < settings.get(2) ? new Ran(i, 5, in, behind) : new Ran(NONE, 0, in, behind);
            Span s = spans.get(i);
            if (s.burst()) return new Ran(i, 1, in, behind);
            if (p > s.stands()) return new Ran(i, 4, in, behind);
            p -= s.loss(q);
            if (p < 0) return new Ran(i, 3, in, behind);
        }
    }

    private int best(int q) {
        int best = -1;
        for (int set = 0; set < 1 << spans.size(); set++) {
            if (ran(q, set).how() == 0 && (best < 0 || Integer.bitCount(set) < Integer.bitCount(best))) best = set;
        }
        return best;
    }

    int span(int m, int s, int r, int t) { return tell('h', m, s, r, t); }

    int cuts() { return tell('c'); }

    int sets(int k, int v) { return tell('k', k, v); }

    int pumps(int i) { return tell('p', i); }

    int bursts(int i) { return tell('x', i); }

    int mends(int i) { return tell('m', i); }

    int lays() { return tell('l'); }

    int of(int i, int what) {
        if (out(i, 0, spans.size() - 1) || out(what, 0, 4)) return refuse(BAD);
        Span s = spans.get(i);
        return new int[] {s.m(), s.s(), s.h(), s.twin() ? 1 : 0, s.burst() ? 1 : 0}[what];
    }

    int loss(int i, int q) {
        if (out(i, 0, spans.size() - 1) || out(q, 1, 30)) return refuse(BAD);
        return spans.get(i).loss(q);
    }

    int node(int i, int what) {
        if (out(i, 0, spans.size()) || out(what, 0, 1)) return refuse(BAD);
        Ran ran = ran(settings.get(0), bits());
        List<Integer> row = what == 0 ? ran.in() : ran.behind();
        return i < row.size() ? row.get(i) : NONE;
    }

    int run(int what) {
        if (out(what, 0, 2)) return refuse(BAD);
        Ran ran = ran(settings.get(0), bits());
        if (what == 0) return ran.where();
        if (what == 1) return ran.how();
        return ran.behind().size() > spans.size() ? ran.behind().get(spans.size()) : NONE;
    }

    int fewest(int q, int what) {
        if (out(q, 1, 30) || out(what, 0, 1)) return refuse(BAD);
        int set = best(q);
        return set < 0 ? NONE : what == 0 ? Integer.bitCount(set) : set;
    }

    int most() {
        int most = NONE;
        for (int q = 1; q <= 30; q++) if (ran(q, bits()).how() == 0) most = q;
        return most;
    }

    int count(int what) {
        if (out(what, 0, 10)) return refuse(BAD);
        if (what == 0) return pumps.size();
        if (what == 1) return bits();
        if (what == 2) return spans.size();
        if (what == 3) return (int) spans.stream().filter(Span::burst).count();
        if (what == 10) return spans.stream().mapToInt(Span::hoses).sum();
        return settings.get(what - 4);
    }

    private static int brings(int k, int v, int a, int d, int e) {
        int round = 60 * k * v / (a + d + d + e);
        int filled = 60 * v / a;
        return round < filled ? round : filled;
    }

    private static boolean noTrip(int v, int a, int d, int e) {
        return out(v, 1, 99) || out(a, 1, 99) || out(d, 1, 99) || out(e, 1, 99);
    }

    int shuttle(int k, int v, int a, int d, int e) {
        return out(k, 1, 20) || noTrip(v, a, d, e) ? refuse(BAD) : brings(k, v, a, d, e);
    }

    int tanks(int w, int v, int a, int d, int e) {
        if (out(w, 1, 9999) || noTrip(v, a, d, e)) return refuse(BAD);
        int fewest = NONE;
        for (int k = 20; k >= 1; k--) if (brings(k, v, a, d, e) >= w) fewest = k;
        return fewest;
    }

    int type(int c) {
        if (out(c, 0, 127)) return refuse(BAD);
        if (text.length() == 120) return refuse(FULL);
        return text.append((char) c).length();
    }

    int clear() {
        int had = text.length();
        text.setLength(0);
        return had;
    }

    /** How many first bytes could all stand there, if the text went on in the right way. */
    private int standing() {
        for (int n = 1; n <= text.length(); n++) {
            Matcher m = TEXT.matcher(text.substring(0, n));
            if (!m.matches() && !m.hitEnd()) return n - 1;
        }
        return text.length();
    }

    int does() {
        if (!TEXT.matcher(text).matches()) return -10 - standing();
        State s = copy();
        Matcher each = ORDER.matcher(text);
        int n = 0;
        while (each.find()) {
            Matcher figures = Pattern.compile("-?[0-9]+").matcher(each.group());
            int[] a = figures.results().mapToInt(r -> Integer.parseInt(r.group())).toArray();
            if (order(each.group().charAt(0), a) <= BAD) {
                put(s);
                return -1000 - n;
            }
            n++;
        }
        leave(s);
        return n;
    }

    int back() {
        if (states.isEmpty()) return refuse(NO);
        put(states.remove(states.size() - 1));
        return states.size();
    }

    int told(int what) {
        if (out(what, 0, 4)) return refuse(BAD);
        return what < 3 ? refused[what] : what == 3 ? text.length() : states.size();
    }

    long digest() {
        List<Integer> v = new ArrayList<>();
        int q = settings.get(0);
        for (int i = 0; i <= 4; i++) v.add(told(i));
        for (int i = 0; i <= 10; i++) v.add(count(i));
        for (int i = 0; i < spans.size(); i++) {
            for (int j = 0; j <= 4; j++) v.add(of(i, j));
            v.add(loss(i, q));
        }
        for (int i = 0; i <= spans.size(); i++) {
            v.add(node(i, 0));
            v.add(node(i, 1));
        }
        for (int i = 0; i <= 2; i++) v.add(run(i));
        v.add(fewest(q, 0));
        v.add(fewest(q, 1));
        v.add(most());
        long h = 2920;
        for (int each : v) h = 31 * h + each;
        return h;
    }
}
