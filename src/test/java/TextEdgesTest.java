/** What the document says of THE TEXT: each byte that can stand at each kind of place, each FAULT, what ends all. */
public final class TextEdgesTest {
    private static final int FULL = -1000004;
    private static final String FIGURES = "0123456789", LETTERS = " hkpxmc";
    private static final Due DUE = new Due("TextEdgesTest");

    /** What stands ahead, and the bytes that can stand behind it. */
    private static final String[][] BYTES = {
        {"", LETTERS}, {" ", LETTERS}, {"   ", LETTERS}, {"c;", LETTERS}, {"c; ", LETTERS}, {"h1 2-3 0;", LETTERS},
        {"k0 9;", LETTERS}, {"p0;", LETTERS}, {"x0;", LETTERS}, {"x0;m0;", LETTERS}, {"x0 ; m0  ; ", LETTERS},
        {"c", " ;"}, {" c", " ;"}, {"c ", " ;"}, {"c;c", " ;"}, {"c;c  ", " ;"},
        {"p", " " + FIGURES}, {"p ", " " + FIGURES}, {"p1", " ;" + FIGURES}, {"p00", " ;" + FIGURES}, {"p001", " ;"},
        {"p0 ", " ;"}, {"p001 ", " ;"}, {"c;p", " " + FIGURES},
        {"x", " " + FIGURES}, {"x  ", " " + FIGURES}, {"x0", " ;" + FIGURES}, {"x00", " ;" + FIGURES}, {"x002", " ;"},
        {"x1 ", " ;"}, {"x002  ", " ;"},
        {"m", " " + FIGURES}, {"m ", " " + FIGURES}, {"x0;m0", " ;" + FIGURES}, {"x0;m00", " ;" + FIGURES},
        {"x0;m000", " ;"}, {"x0;m0 ", " ;"},
        {"k", " " + FIGURES}, {"k ", " " + FIGURES}, {"k0", " " + FIGURES}, {"k00", " " + FIGURES}, {"k000", " "},
        {"k0 ", " " + FIGURES}, {"k0  ", " " + FIGURES}, {"k000 ", " " + FIGURES}, {"k5 1", " ;" + FIGURES},
        {"k5 01", " ;" + FIGURES}, {"k5 099", " ;"}, {"k5 9 ", " ;"}, {"k5 099 ", " ;"},
        {"h", " " + FIGURES}, {"h ", " " + FIGURES}, {"h1", " " + FIGURES}, {"h01", " " + FIGURES}, {"h001", " "},
        {"h1 ", " " + FIGURES}, {"h1  ", " " + FIGURES}, {"h001 ", " " + FIGURES},
        {"h1 2", " -" + FIGURES}, {"h1 02", " -" + FIGURES}, {"h1 002", " -"}, {"h1 2 ", " -" + FIGURES},
        {"h1 2  ", " -" + FIGURES}, {"h1 002 ", " -" + FIGURES}, {"h1 2-", FIGURES}, {"h1 2 -", FIGURES},
        {"h1 002-", FIGURES}, {"h1 2-3", " " + FIGURES}, {"h1 2-03", " " + FIGURES}, {"h1 2-003", " "},
        {"h1 2 3", " " + FIGURES}, {"h1 2 03", " " + FIGURES}, {"h1 2 003", " "}, {"h1 2-3 ", " " + FIGURES},
        {"h1 2-003 ", " " + FIGURES}, {"h1 2 3  ", " " + FIGURES}, {"h1 2-3 0", " ;" + FIGURES},
        {"h1 2-3 00", " ;" + FIGURES}, {"h1 2 3 001", " ;"}, {"h1 2-3 1 ", " ;"}, {"h1 2 3 001 ", " ;"}};

    private TextEdgesTest() {
    }

    public static void main(String[] args) {
        firstByteThatCanNotStand();
        tooEarly();
        emptyOrBlanksAlone();
        bytesAtMost();
        faultAtTheLastByte();
        figures();
        belowZero();
        blanksAnywhere();
        blanksNotWithin();
        eachOrder();
        inTheirOrder();
        readWholeFirst();
        orderThatEndsAll();
        eachRefusalEndsAll();
        nothingCounts();
        staysAndIsReadAnew();
        clearedIsGone();
        DUE.end();
    }

    private static void is(String call, long got, long want) {
        DUE.is(call, got, want);
    }

    private static int orders(String text) {
        return (int) text.chars().filter(c -> c == ';').count();
    }

    private static boolean isWhole(String text) {
        return text.strip().endsWith(";");
    }

    /** For each row: all 128 bytes behind it, and each that can not stand with more behind it, too. */
    private static void firstByteThatCanNotStand() {
        DUE.part("FAULT: the place of the first byte that can not stand there");
        for (String[] row : BYTES) {
            for (int c = 0; c <= 127; c++) {
                String text = row[0] + (char) c;
                boolean stands = row[1].indexOf(c) >= 0;
                int fault = -10 - (stands ? text.length() : row[0].length());
                Hoses x = Hoses.level(3);
                x.sets(5, 9);
                is("does() of " + text, x.does(text), stands && isWhole(text) ? orders(text) : fault);
                if (!stands) {
                    nothingDone(text + ";c;", fault);
                    nothingDone(text + text, fault);
                }
            }
        }
    }

    private static void nothingDone(String text, int answer) {
        Hoses x = Hoses.level(3);
        String was = x.seen();
        is("does() of " + text, x.does(text), answer);
        DUE.holds("nothing is done by " + text, x.seen().equals(was));
        is("told(4)", x.told(4), 3);
        is("told(3)", x.told(3), text.length());
        is("told(0 .. 2)", x.told(0) + x.told(1) + x.told(2), 0);
    }

    private static void tooEarly() {
        DUE.part("FAULT: the TEXT's length, if it ends too early");
        String whole = " h 10 2 -35 1 ; k 0 12 ;p0;x1;m 1;c;";
        for (int n = 0; n <= whole.length(); n++) {
            String text = whole.substring(0, n);
            boolean ends = isWhole(text);
            Hoses x = Hoses.level(2);
            x.sets(5, 9);
            is("does() of " + text, x.does(text), ends ? orders(text) : -10 - n);
            is("told(4)", x.told(4), ends ? 4 : 3);
        }
    }

    private static void emptyOrBlanksAlone() {
        DUE.part("FAULT: one that is empty or has blanks alone, too");
        nothingDone("", -10);
        is("does() at first", new Hoses().does(), -10);
        for (int n = 1; n <= 120; n++) {
            nothingDone(" ".repeat(n), -10 - n);
        }
        nothingDone(" ".repeat(119) + "c", -130);
        is("an ORDER behind blanks", Hoses.level(1).does(" ".repeat(118) + "c;"), 1);
        is("an ORDER ahead of blanks", Hoses.level(1).does("c;" + " ".repeat(118)), 1);
    }

    private static void bytesAtMost() {
        DUE.part("THE TEXT (120 bytes at most)");
        Hoses x = new Hoses();
        String forty = "p0;".repeat(40);
        for (int n = 1; n <= 120; n++) {
            is("type", x.type(forty.charAt(n - 1)), n);
            is("told(3)", x.told(3), n);
        }
        is("type of a 121st", x.type(';'), FULL);
        is("type of a 122nd", x.type('z'), FULL);
        is("told(3)", x.told(3), 120);
        is("told(2)", x.told(2), 2);
        is("does()", x.does(), 40);
        is("clear()", x.clear(), 120);
        is("type", x.type('c'), 1);
        is("told(2)", x.told(2), 2);
        is("sixty ORDERS, ten of them can be", Hoses.level(10).does("c;".repeat(60)), -1010);
        is("fifty-nine and a half", Hoses.level(10).does("c;".repeat(59) + "c"), -129);
        is("a FAULT at the sixtieth", Hoses.level(10).does("c;".repeat(59) + "cc"), -129);
        is("a FAULT ahead of it", Hoses.level(10).does("c;".repeat(59) + ";"), -128);
    }

    private static void faultAtTheLastByte() {
        DUE.part("a FAULT at the last of 120 bytes, and behind them");
        String most = "p0;".repeat(39);
        nothingDone(most + "p0z", -129);
        nothingDone(most + "p00", -130);
        nothingDone(most + "pz;", -128);
        nothingDone(most + "z0;", -127);
        nothingDone("z" + most, -10);
        is("120 bytes", Hoses.level(0).does(most + "p0;"), 40);
    }

    /** Each number of each ORDER, @ where it stands: no figure, one, two, three, and a fourth. */
    private static void figures() {
        DUE.part("numbers have 1 to 3 figures");
        String[] orders = {"h@ 2 3 1;", "h1 @ 3 1;", "h1 2 @ 1;", "h1 2-@ 1;", "h1 2 3 @;", "k@ 9;", "k0 @;", "p@;", "x@;", "k5 9;x1;m@;"};
        for (String order : orders) {
            int at = order.indexOf('@');
            for (String v : new String[] {"1", "01", "001"}) {
                is(order + " by " + v, Hoses.level(3).does(order.replace("@", v)), orders(order));
            }
            for (String v : new String[] {"0001", "1234", "0000", "9999"}) {
                nothingDone(order.replace("@", v), -10 - (at + 3));
            }
            nothingDone(order.replace("@", "000000"), -10 - (at + 3));
        }
        nothingDone("p;", -11);
        nothingDone("x;", -11);
        nothingDone("m;", -11);
        nothingDone("m0001;", -14);
        nothingDone("k;", -11);
        nothingDone("k0;", -12);
        nothingDone("k0 ;", -13);
        nothingDone("h;", -11);
        nothingDone("h1;", -12);
        nothingDone("h1 2;", -14);
        nothingDone("h1 2-;", -15);
        nothingDone("h1 2-3;", -16);
        nothingDone("h1 2 3 ;", -17);
        nothingDone("c0;", -11);
        nothingDone("c 0;", -12);
    }

    private static void belowZero() {
        DUE.part("r perhaps with - ahead");
        for (int r : new int[] {-50, -1, 0, 1, 50}) {
            Hoses x = new Hoses();
            is("does()", x.does("h1 2 " + r + " 0;"), 1);
            is("of(0, 2)", x.of(0, 2), r);
        }
        Hoses x = new Hoses();
        is("does() of -0, -00 and -007", x.does("h1 2-0 0;h1 2 -00 0;h1 2-007 0;"), 3);
        is("of(0, 2)", x.of(0, 2), 0);
        is("of(1, 2)", x.of(1, 2), 0);
        is("of(2, 2)", x.of(2, 2), -7);
        nothingDone("h-1 2 3 0;", -11);
        nothingDone("h1 -2 3 0;", -13);
        nothingDone("h1-2 3 0;", -12);
        nothingDone("h1 2 3 -0;", -17);
        nothingDone("h1 2 3-0;", -16);
        nothingDone("h1 2--3 0;", -15);
        nothingDone("h1 2-3-0;", -16);
        nothingDone("k-0 9;", -11);
        nothingDone("k0 -9;", -13);
        nothingDone("k0-9;", -12);
        nothingDone("p-0;", -11);
        nothingDone("x-0;", -11);
        nothingDone("m-0;", -11);
        nothingDone("c-;", -11);
    }

    /** @ where a blank may stand and none is needed: each set of them is tried, with one blank and with two. */
    private static void blanksAnywhere() {
        DUE.part("blanks (32) may stand anywhere");
        String[] parts = "@h@1 2@-3@ 1@;@k@5 @ 70@;@x@0@;@m@0@;@c@;@".split("@", -1);
        int sets = 1 << parts.length - 1;
        for (int set = 0; set < sets; set += 7) {
            StringBuilder text = new StringBuilder(parts[0]);
            for (int i = 1; i < parts.length; i++) {
                text.append((set >> i - 1) % 2 == 0 ? "" : set % 3 == 0 ? "  " : " ").append(parts[i]);
            }
            is("does() of " + text, Hoses.level(2).does(text.toString()), 5);
        }
        Hoses x = new Hoses();
        is("as few as can be", x.does("h1 2-3 1;h30 0 50 0;p0;c;"), 4);
        is("of(0, 2)", x.of(0, 2), -3);
    }

    private static void blanksNotWithin() {
        DUE.part("but within a number or between - and its figures");
        nothingDone("p0 0;", -13);
        nothingDone("p00 1;", -14);
        nothingDone("p 0 1 ;", -14);
        nothingDone("k0 1 2;", -15);
        nothingDone("k0 1  2;", -16);
        nothingDone("h1 2 3 1 1;", -19);
        nothingDone("h1 2- 3 1;", -15);
        nothingDone("h1 2 -  3 1;", -16);
        DUE.part("needed only where figures of two numbers would else stand side by side");
        nothingDone("k12;", -13);
        nothingDone("k123;", -14);
        nothingDone("h1 23 1;", -17);
        nothingDone("h1 2-31;", -17);
        nothingDone("h12-3 1;", -13);
    }

    /** Each ORDER by itself leaves what its call leaves. */
    private static void eachOrder() {
        DUE.part("ORDERS: h as span, k as sets, p as pumps, x as bursts, m as mends, c as cuts");
        String[] orders = {"h7 1-9 1;", "h30 3 50 0;", "k1 2;", "k2 1;", "k5 3;", "p0;", "p2;", "p3;", "x0;", "x2;", "m1;", "c;"};
        for (int n = 0; n < orders.length; n++) {
            Hoses x = three();
            Hoses y = three();
            is("does() of " + orders[n], x.does(orders[n]), 1);
            switch (n) {
                case 0: y.span(7, 1, -9, 1); break;
                case 1: y.span(30, 3, 50, 0); break;
                case 2: y.sets(1, 2); break;
                case 3: y.sets(2, 1); break;
                case 4: y.sets(5, 3); break;
                case 5: y.pumps(0); break;
                case 6: y.pumps(2); break;
                case 7: y.pumps(3); break;
                case 8: y.bursts(0); break;
                case 9: y.bursts(2); break;
                case 10: y.mends(1); break;
                default: y.cuts(); break;
            }
            DUE.holds("as the call: " + orders[n], x.seen().equals(y.seen()));
            DUE.holds("something is done by " + orders[n], !x.seen().equals(three().seen()));
            is("told(4)", x.told(4), y.told(4));
        }
    }

    private static Hoses three() {
        Hoses x = Hoses.level(3);
        x.sets(5, 50);
        x.bursts(1);
        x.pumps(2);
        return x;
    }

    private static void inTheirOrder() {
        DUE.part("ORDERS are done one behind the other: how many");
        Hoses x = new Hoses();
        is("does()", x.does("h1 3 0 0;p1;c;h1 3 0 0;k5 1;x0;m0;"), 7);
        is("count(0)", x.count(0), 0);
        is("count(3)", x.count(3), 0);
        is("count(9)", x.count(9), 0);
        is("told(4)", x.told(4), 1);
        for (int n = 1; n <= 40; n++) {
            Hoses each = new Hoses();
            is("does()", each.does("p0;".repeat(n)), n);
            is("count(0)", each.count(0), n % 2);
        }
    }

    private static void readWholeFirst() {
        DUE.part("THE TEXT is read whole first");
        nothingDone("p0;p9;q", -16);
        nothingDone("p9;c", -14);
        nothingDone("c;c;c;c;c;p1234;", -24);
        nothingDone("k0 31;h1 2 3 ;", -23);
        nothingDone("c;c;c; z", -17);
        nothingDone("p9;", -1000);
    }

    private static void orderThatEndsAll() {
        DUE.part("an ORDER that its call would refuse then ends all, nothing is done");
        for (int n = 0; n <= 38; n++) {
            nothingDone("p0;".repeat(n) + "p9;", -1000 - n);
            nothingDone("p0;".repeat(n) + "p4;p0;", -1000 - n);
        }
        nothingDone("c;c;c;c;", -1003);
        nothingDone("h1 2 3 0;k0 9;p1;x0;c;c;p3;", -1006);
        nothingDone("k5 9;x0;m0;m0;", -1003);
        nothingDone("x0;x1;x2;c;c;p0;p2;", -1006);
        nothingDone("k0 9;k1 9;k2 9;k3 99;k4 9;k5 9;k6 9;", -1006);
        nothingDone("c;h2 2 2 1;x2;p3;h3 2 2 1;p4;h99 0 0 0;", -1006);
        nothingDone("p9;p8;p7;", -1000);
    }

    /** The first answer is that of an ORDER which its call refuses, the second that of one which it just takes. */
    private static void eachRefusalEndsAll() {
        DUE.part("an ORDER that its call would refuse: BAD, NO, FULL");
        Hoses none = new Hoses();
        is("c: NO", none.does("c;"), -1000);
        is("p: BAD", none.does("p1;"), -1000);
        is("p", none.does("p0;"), 1);
        is("x: BAD", none.does("x0;"), -1000);
        is("m: BAD", none.does("m0;"), -1000);
        Hoses x = new Hoses();
        is("x behind h", x.does("h5 3 0 1;x0;"), 2);
        is("m: NO, SPARE is less", x.does("k5 9;m0;"), -1001);
        is("m", x.does("k5 10;m0;"), 2);
        is("m: NO, it is not BURST", x.does("k5 99;m0;"), -1001);
        is("count(9)", x.count(9), 0);
        is("h: FULL", Hoses.level(10).does("h1 0 0 0;"), -1000);
        is("h: the tenth, FULL", Hoses.level(9).does("h1 0 0 0;h1 0 0 0;"), -1001);
        is("h: the tenth", Hoses.level(9).does("h1 0 0 0;"), 1);
        is("h behind c", Hoses.level(10).does("c;h1 0 0 0;"), 2);
        is("h: BAD", Hoses.level(9).does("h31 0 0 0;"), -1000);
        is("k: BAD", Hoses.level(9).does("k3 19;"), -1000);
        is("k", Hoses.level(9).does("k3 20;"), 1);
    }

    private static void nothingCounts() {
        DUE.part("by does() nothing counts (by type() as by any call)");
        Hoses x = Hoses.level(10);
        for (String text : new String[] {"h1 0 0 0;", "m0;", "p11;", "q;", "", "k9 9;"}) {
            DUE.holds("refused", x.does(text) < 0);
        }
        is("told(0)", x.told(0), 0);
        is("told(1)", x.told(1), 0);
        is("told(2)", x.told(2), 0);
        is("type(128)", x.type(128), -1000002);
        is("told(0)", x.told(0), 1);
        x.write("p0;".repeat(40));
        is("type when full", x.type('c'), FULL);
        is("told(2)", x.told(2), 1);
        is("does()", x.does(), 40);
        is("told(0)", x.told(0), 1);
        is("told(2)", x.told(2), 1);
    }

    private static void staysAndIsReadAnew() {
        DUE.part("THE TEXT stays");
        Hoses x = new Hoses();
        x.write("h1 3 0 0;");
        for (int n = 1; n <= 10; n++) {
            is("does()", x.does(), 1);
            is("count(2)", x.count(2), n);
        }
        is("does(): FULL", x.does(), -1000);
        x.cuts();
        is("does() behind cuts()", x.does(), 1);
        is("told(3)", x.told(3), 9);
        is("type('c')", x.type('c'), 10);
        is("does(): it ends too early", x.does(), -20);
        is("type(';')", x.type(';'), 11);
        is("does(): FULL", x.does(), -1000);
        x.cuts();
        is("does()", x.does(), 2);
        is("count(2)", x.count(2), 9);
        is("type('c')", x.type('c'), 12);
        is("type('c')", x.type('c'), 13);
        is("does(): a FAULT", x.does(), -22);
        is("type(';')", x.type(';'), 14);
        is("does(): the same FAULT", x.does(), -22);
        is("count(2)", x.count(2), 9);
    }

    private static void clearedIsGone() {
        DUE.part("clear: THE TEXT is empty");
        Hoses x = Hoses.level(9);
        x.write("c;c;c;p0;x1;");
        is("clear()", x.clear(), 12);
        is("clear() again", x.clear(), 0);
        is("told(3)", x.told(3), 0);
        is("does()", x.does(), -10);
        x.type('c');
        is("does(): what was behind is gone", x.does(), -11);
        x.type(';');
        is("does()", x.does(), 1);
        is("count(2)", x.count(2), 8);
        is("count(0)", x.count(0), 0);
        is("clear()", x.clear(), 2);
    }
}
