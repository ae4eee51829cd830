/**
 * A HoseSpans for tests, with a few words more. It ends a test that asks for more than 512 calls: what later ones
 * answer is free, so no test may hold the program to it.
 */
final class Hoses {
    private static final int CALLS = 512;

    private final HoseSpans x = new HoseSpans();
    private int calls = 0;

    /** n SPANS of one LENGTH of sort 3 without RISE: by FLOW 10 each loses 2, by FLOW 7 or less nothing. */
    static Hoses level(int n) {
        Hoses x = new Hoses();
        for (int i = 0; i < n; i++) {
            x.span(1, 3, 0, 0);
        }
        return x;
    }

    /** By FLOW 1 and NEED 0, a SPAN of one LENGTH of sort 3 for each rise: it loses just that. */
    static Hoses rising(int... rises) {
        Hoses x = new Hoses();
        for (int rise : rises) {
            x.span(1, 3, rise, 0);
        }
        x.sets(0, 1);
        x.sets(2, 0);
        return x;
    }

    private HoseSpans next() {
        calls++;
        if (calls > CALLS) {
            throw new IllegalStateException("a test asks for call " + calls + " of one object");
        }
        return x;
    }

    int left() {
        return CALLS - calls;
    }

    /** THE TEXT becomes that. */
    void write(String text) {
        clear();
        for (int i = 0; i < text.length(); i++) {
            type(text.charAt(i));
        }
    }

    int does(String text) {
        write(text);
        return does();
    }

    /** All that back() can bring back, with what comes of it; asks for some 40 to 150 calls. */
    String seen() {
        StringBuilder all = new StringBuilder();
        for (int what = 0; what <= 10; what++) {
            all.append(count(what)).append(' ');
        }
        int spans = count(2);
        for (int i = 0; i < spans; i++) {
            for (int what = 0; what <= 4; what++) {
                all.append(of(i, what)).append(' ');
            }
        }
        for (int i = 0; i <= spans; i++) {
            all.append(node(i, 0)).append(' ').append(node(i, 1)).append(' ');
        }
        return all.append(run(0)).append(' ').append(run(1)).append(' ').append(run(2)).toString();
    }

    int span(int m, int s, int r, int t) { return next().span(m, s, r, t); }

    int cuts() { return next().cuts(); }

    int sets(int k, int v) { return next().sets(k, v); }

    int pumps(int i) { return next().pumps(i); }

    int bursts(int i) { return next().bursts(i); }

    int mends(int i) { return next().mends(i); }

    int lays() { return next().lays(); }

    int of(int i, int what) { return next().of(i, what); }

    int loss(int i, int q) { return next().loss(i, q); }

    int node(int i, int what) { return next().node(i, what); }

    int run(int what) { return next().run(what); }

    int fewest(int q, int what) { return next().fewest(q, what); }

    int most() { return next().most(); }

    int count(int what) { return next().count(what); }

    int shuttle(int k, int v, int a, int d, int e) { return next().shuttle(k, v, a, d, e); }

    int tanks(int w, int v, int a, int d, int e) { return next().tanks(w, v, a, d, e); }

    int type(int c) { return next().type(c); }

    int clear() { return next().clear(); }

    int does() { return next().does(); }

    int back() { return next().back(); }

    int told(int what) { return next().told(what); }

    long digest() { return next().digest(); }
}
