/** What the document says of a SHUTTLE: the lesser of two, each cut, and the fewest TANKS by which it brings enough. */
public final class TanksEdgesTest {
    private static final int NONE = -1000001;
    private static final Due DUE = new Due("TanksEdgesTest");

    private TanksEdgesTest() {
    }

    public static void main(String[] args) {
        byTheRound();
        byFilling();
        lesserOfBoth();
        driveTwice();
        leastAndMost();
        fewestTanks();
        notSoMany();
        twentyTanks();
        leavesAll();
        DUE.end();
    }

    private static void is(String call, long got, long want) {
        DUE.is(call, got, want);
    }

    /** The greatest n of which d make no more than all: all by d, cut. */
    private static int cut(int all, int d) {
        int n = 0;
        while ((n + 1) * d <= all) {
            n++;
        }
        return n;
    }

    private static void byTheRound() {
        DUE.part("60 k v by (a + 2 d + e), cut");
        Hoses x = new Hoses();
        is("600 by 20", x.shuttle(1, 10, 3, 7, 3), 30);
        is("600 by 21", x.shuttle(1, 10, 3, 7, 4), 28);
        is("600 by 19", x.shuttle(1, 10, 2, 7, 3), 31);
        is("660 by 221", x.shuttle(1, 11, 1, 99, 22), 2);
        is("660 by 220", x.shuttle(1, 11, 1, 99, 21), 3);
        is("660 by 219", x.shuttle(1, 11, 1, 99, 20), 3);
    }

    private static void byFilling() {
        DUE.part("60 v by a, cut");
        Hoses x = new Hoses();
        is("60 by 60", x.shuttle(20, 1, 60, 1, 1), 1);
        is("60 by 61", x.shuttle(20, 1, 61, 1, 1), 0);
        is("60 by 59", x.shuttle(20, 1, 59, 1, 1), 1);
        is("60 by 30", x.shuttle(20, 1, 30, 1, 1), 2);
        is("60 by 31", x.shuttle(20, 1, 31, 1, 1), 1);
        is("180 by 7", x.shuttle(20, 3, 7, 1, 1), 25);
    }

    private static void lesserOfBoth() {
        DUE.part("the lesser of both");
        Hoses x = new Hoses();
        is("both 120", x.shuttle(6, 10, 5, 10, 5), 120);
        is("100 and 120", x.shuttle(5, 10, 5, 10, 5), 100);
        is("140 and 120", x.shuttle(7, 10, 5, 10, 5), 120);
        is("116 and 120", x.shuttle(6, 10, 5, 10, 6), 116);
        is("124 and 120", x.shuttle(6, 10, 5, 10, 4), 120);
        for (int k = 1; k <= 20; k++) {
            for (int a = 1; a <= 99; a += 7) {
                Hoses y = new Hoses();
                for (int d = 1; d <= 99; d += 49) {
                    for (int e = 1; e <= 99; e += 49) {
                        int v = 1 + (k * a + d + e) % 99;
                        int due = Math.min(cut(60 * k * v, a + d + d + e), cut(60 * v, a));
                        is("shuttle of " + k + " " + v + " " + a + " " + d + " " + e, y.shuttle(k, v, a, d, e), due);
                    }
                }
            }
        }
    }

    private static void driveTwice() {
        DUE.part("d to drive (there, and as long back)");
        Hoses x = new Hoses();
        is("5940 by 100", x.shuttle(1, 99, 1, 49, 1), 59);
        is("5940 by 99", x.shuttle(1, 99, 1, 48, 2), 60);
        is("5940 by 101", x.shuttle(1, 99, 2, 49, 1), 58);
        is("5940 by 297", x.shuttle(1, 99, 98, 50, 99), 20);
        is("5940 by 298", x.shuttle(1, 99, 99, 50, 99), 19);
    }

    private static void leastAndMost() {
        DUE.part("the least and the greatest of all numbers");
        Hoses x = new Hoses();
        is("60 by 4", x.shuttle(1, 1, 1, 1, 1), 15);
        is("60 by 396", x.shuttle(1, 1, 99, 99, 99), 0);
        is("1200 by 396 is 3, 60 by 99 is 0", x.shuttle(20, 1, 99, 99, 99), 0);
        is("118800 by 396 is 300, 5940 by 99 is 60", x.shuttle(20, 99, 99, 99, 99), 60);
        is("118800 by 4 is 29700, 5940 by 1", x.shuttle(20, 99, 1, 1, 1), 5940);
        is("5940 by 396", x.shuttle(1, 99, 99, 99, 99), 15);
        is("tanks of 1", x.tanks(1, 1, 1, 1, 1), 1);
        is("tanks of 9999", x.tanks(9999, 99, 1, 1, 1), NONE);
    }

    private static void fewestTanks() {
        DUE.part("the fewest TANKS by which it brings w or more");
        int[][] trips = {{10, 5, 10, 5}, {10, 6, 10, 7}, {99, 1, 99, 99}, {7, 3, 8, 11}, {1, 1, 99, 1}, {99, 1, 1, 1}};
        for (int[] t : trips) {
            for (int k = 1; k <= 20; k++) {
                Hoses x = new Hoses();
                int brings = x.shuttle(k, t[0], t[1], t[2], t[3]);
                int before = k == 1 ? 0 : x.shuttle(k - 1, t[0], t[1], t[2], t[3]);
                int after = k == 20 ? brings : x.shuttle(k + 1, t[0], t[1], t[2], t[3]);
                if (brings > before) {
                    is("tanks for as much as " + k + " bring", x.tanks(brings, t[0], t[1], t[2], t[3]), k);
                    is("tanks for one more than fewer bring", x.tanks(before + 1, t[0], t[1], t[2], t[3]), k);
                }
                if (after > brings) {
                    is("tanks for one more", x.tanks(brings + 1, t[0], t[1], t[2], t[3]), k + 1);
                }
            }
        }
    }

    private static void notSoMany() {
        DUE.part("NONE: not so many do");
        Hoses x = new Hoses();
        is("tanks for all by filling", x.tanks(120, 10, 5, 10, 5), 6);
        is("tanks for more", x.tanks(121, 10, 5, 10, 5), NONE);
        is("tanks for 5940", x.tanks(5940, 99, 1, 1, 1), 4);
        is("tanks for 5941", x.tanks(5941, 99, 1, 1, 1), NONE);
        is("tanks where none brings 1", x.tanks(1, 1, 61, 1, 1), NONE);
        is("tanks where it brings 1", x.tanks(1, 1, 60, 1, 1), 2);
        is("told(0): NONE is no refusal", x.told(0) + x.told(1) + x.told(2), 0);
    }

    private static void twentyTanks() {
        DUE.part("TANKS (1 .. 20)");
        Hoses x = new Hoses();
        is("20 bring 398", x.shuttle(20, 99, 1, 99, 99), 398);
        is("19 bring 378", x.shuttle(19, 99, 1, 99, 99), 378);
        is("tanks for 378", x.tanks(378, 99, 1, 99, 99), 19);
        is("tanks for 379", x.tanks(379, 99, 1, 99, 99), 20);
        is("tanks for 398", x.tanks(398, 99, 1, 99, 99), 20);
        is("tanks for 399: 21 would do", x.tanks(399, 99, 1, 99, 99), NONE);
    }

    private static void leavesAll() {
        DUE.part("a SHUTTLE has nothing to do with SPANS");
        Hoses x = Hoses.level(3);
        x.pumps(1);
        String was = x.seen();
        is("shuttle", x.shuttle(3, 10, 5, 10, 5), 60);
        is("tanks", x.tanks(60, 10, 5, 10, 5), 3);
        DUE.holds("all is as it was", x.seen().equals(was));
        is("told(4)", x.told(4), 4);
    }
}
