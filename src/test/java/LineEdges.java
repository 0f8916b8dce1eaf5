/** The edges of THE LINE and THE BOOK, and of promises 24 to 29, sentence by sentence. */
final class LineEdges {
    private static final int NONE = CanoeSides.NONE, UNKNOWN = CanoeSides.UNKNOWN, OUTSIDE = CanoeSides.OUTSIDE,
        NOT = CanoeSides.NOT, FULL = CanoeSides.FULL;
    private static final String EAST = "r8 1........;b3 0 2;";
    private static final int[][] NO_SQUARE = {{8, 0}, {0, 1}, {-1, 0}, {0, -1}, {Integer.MAX_VALUE, 0}, {0, Integer.MIN_VALUE}};

    private LineEdges() {
    }

    static void all() {
        line();
        fits();
        gave();
        gaveSets();
        write();
        judge();
        tear();
    }

    private static CanoeSides line(String text, int... xs) {
        CanoeSides x = Due.on(text);
        for (int to : xs) {
            x.line(to, 0);
        }
        return x;
    }

    private static CanoeSides lively() {
        CanoeSides x = Due.on(EAST + "p4 2 20 3;g7 0 8;w1 9;");
        x.seed(5);
        x.keep(1);
        x.drift(2);
        x.line(4, 0);
        x.write(3, 4, 0);
        return x;
    }

    private static CanoeSides full() {
        CanoeSides x = lively();
        for (int i = 0; i < 20; i++) {
            x.line(4, 0);
            x.write(3, 4, 0);
        }
        return x;
    }

    // ---- promises 24 to 26

    private static void line() {
        Says.terms("THE LINE (4 at most): SQUARES where it was behind each of the next strokes.");
        CanoeSides x = line(EAST + "p4 2 20 3;", 4, 6);
        Due.due("behind the first and the second", x.fits(NONE), 8);
        Due.due("in this order", line(EAST + "p4 2 20 3;", 6, 4).fits(NONE), 0);
        Says.promise(24, "A SQUARE more of THE LINE: how many.");
        CanoeSides y = Due.on("r2 2.#..;");
        Due.due("line(0, 0)", y.line(0, 0), 1);
        Due.due("line(1, 0), a bank", y.line(1, 0), 2);
        Due.due("line(1, 1)", y.line(1, 1), 3);
        Due.due("line(1, 1) again", y.line(1, 1), 4);
        Due.due("told(15)", y.told(15), 4);
        Says.promise(24, "UNKNOWN, FULL (4).");
        for (int[] n : NO_SQUARE) {
            String call = "line(" + n[0] + ", " + n[1] + ")";
            Says.refused(UNKNOWN, call, LineEdges::lively, z -> z.line(n[0], n[1]));
            Due.due(call + " to a full one", full().line(n[0], n[1]), UNKNOWN);
        }
        Says.refused(UNKNOWN, "line(0, 0) without SQUARES", CanoeSides::new, z -> z.line(0, 0));
        Says.refused(FULL, "line(0, 0), the fifth", LineEdges::full, z -> z.line(0, 0));
        Due.due("line(0, 0), the fifth", y.line(0, 0), FULL);
    }

    private static void fits() {
        Says.terms("FITS: rows of PAIRS by which it is so: how many; the first row's i-th PAIR;");
        String even = EAST + "p1 1 20 2;";
        CanoeSides none = Due.on(even);
        Due.due("no LINE: the row of no PAIR", none.fits(NONE), 1);
        Due.due("it has no first PAIR", none.fits(0), NONE);
        CanoeSides one = line(even, 4);
        Due.due("on by ll lr rl rr", one.fits(NONE), 4);
        Due.due("the first", one.fits(0), 0);
        CanoeSides two = line(even, 4, 3);
        Due.due("and back by bb", two.fits(NONE), 4);
        Due.due("its PAIR", two.fits(1), 10);
        CanoeSides four = line(even, 3, 2, 3, 3);
        Due.due("eleven that stay, bb, four, eleven", four.fits(NONE), 11 * 4 * 11);
        int[] row = {2, 10, 0, 2};
        for (int i = 0; i < 4; i++) {
            Due.due("the first row's PAIR " + i, four.fits(i), row[i]);
        }
        Due.due("all that there are", line("r1 1.;", 0, 0, 0, 0).fits(NONE), 65536);
        Due.due("none: too far", line(even, 5).fits(NONE), 0);
        Due.due("none: the last too far", line(even, 4, 5, 6, 2).fits(NONE), 0);
        Due.due("none: a bank", line("r2 1.#;", 1).fits(NONE), 0);
        CanoeSides turned = Due.on("r8 6" + "........".repeat(6) + ";p1 1 3 2;b3 3 0;");
        turned.line(3, 2);
        turned.line(4, 1);
        Due.due("ahead, then an eighth to the right: lr ll, rl ll", turned.fits(NONE), 2);
        Due.due("lr", turned.fits(0), 1);
        Due.due("ll", turned.fits(1), 0);
        Says.promise(25, "FITS: i = NONE how many, else the first row's i-th PAIR; NONE.");
        for (int i : new int[] {-2, 4, 5, Integer.MIN_VALUE, Integer.MAX_VALUE}) {
            Due.due("fits(" + i + ") of four", four.fits(i), NONE);
        }
        Due.due("fits(2) of two", two.fits(2), NONE);
        for (int i = 0; i < 4; i++) {
            Due.due("fits(" + i + ") where none fits", line(even, 4, 5, 6, 2).fits(i), NONE);
        }
        CanoeSides first = line(even, 5, 4);
        Due.due("none fits at the first: how many", first.fits(NONE), 0);
        Due.due("none fits at the first: its PAIR", first.fits(0), NONE);
        Due.due("none fits at the first: the second's PAIR", first.fits(1), NONE);
        CanoeSides third = line(even + "w1 3;", 3, 3, 4, 4);
        Due.due("the wind at the third alone", third.fits(NONE), 11 * 11 * 11 * 11);
        CanoeSides second = line(even + "w1 2;", 3, 4, 4, 5);
        Due.due("the wind at the second and the fourth", second.fits(NONE), 11 * 11 * 11 * 11);
        CanoeSides windy = Due.on(even + "w1 2;");
        windy.line(4, 0);
        Due.due("no wind at the next stroke", windy.fits(NONE), 4);
        windy.stroke(3, 3);
        Due.due("from now: the wind at the next one", windy.fits(NONE), 11);
        Says.promise(25, "NOT: no SQUARES.");
        for (int i : new int[] {-2, NONE, 0, 4, Integer.MIN_VALUE, Integer.MAX_VALUE}) {
            Says.refused(NOT, "fits(" + i + ")", CanoeSides::new, y -> y.fits(i));
        }
    }

    private static void gave(String name, CanoeSides x, int front, int behind) {
        Due.due(name + ", in front", x.gave(0), front);
        Due.due(name + ", behind", x.gave(1), behind);
    }

    private static void gave() {
        Says.terms("GAVE UP: at which of these strokes the one in front (the one behind) held in all that fit (a SET; 0, if none fits).");
        gave("no LINE", Due.on(EAST), 0, 0);
        gave("none fits", line(EAST + "p4 2 20 3;", 4, 7), 0, 0);
        gave("none fits behind the fourth", line(EAST + "p4 2 20 3;", 4, 5, 6, 2), 0, 0);
        gave("a bank", line("r2 1.#;", 1), 0, 0);
        gave("held in some, not in all", line("r1 1.;", 0, 0, 0, 0), 0, 0);
        gave("both held", line(EAST + "p9 4 20 1;", 3), 1, 1);
        gave("both held, all four times", line(EAST + "p9 4 20 1;", 3, 3, 3, 3), 15, 15);
        Says.promise(26, "GAVE UP (who 0 in front, 1 behind): the SET.");
        gave("one SQUARE: the one behind held", line(EAST + "p4 2 20 3;", 4), 0, 1);
        gave("one SQUARE: the one in front held", line(EAST + "p2 4 20 3;", 4), 1, 0);
        Says.promise(26, "OUTSIDE, NOT: no SQUARES.");
        for (int who : new int[] {-1, 2, Integer.MIN_VALUE, Integer.MAX_VALUE}) {
            Says.refused(OUTSIDE, "gave(" + who + ")", LineEdges::lively, x -> x.gave(who));
            Says.refused(OUTSIDE, "gave(" + who + ") without SQUARES", CanoeSides::new, x -> x.gave(who));
        }
        Says.refused(NOT, "gave(0)", CanoeSides::new, x -> x.gave(0));
        Says.refused(NOT, "gave(1)", CanoeSides::new, x -> x.gave(1));
    }

    private static void gaveSets() {
        Says.terms("A SET is a whole number, bit k for k.");
        gave("at 0, 2 and 3 in front", line("r8 1........;b1 0 2;p2 4 20 3;", 2, 4, 5, 4), 13, 0);
        gave("at 1 and 3 behind", line("r8 1........;b1 0 2;p4 2 20 3;", 3, 4, 6, 5), 0, 10);
        gave("at all four behind", line("r8 1........;b1 0 2;p4 2 20 3;", 2, 3, 4, 5), 0, 15);
        gave("at the last", line("r8 1........;b1 0 2;p4 2 20 3;", 3, 5, 3, 4), 0, 8);
    }

    // ---- promises 27 to 29

    private static void write() {
        Says.promise(27, "A line behind THE BOOK: how many.");
        CanoeSides x = Due.on("r2 1.#;");
        for (int i = 1; i <= 20; i++) {
            Due.due("write, the " + i + "th", x.write(i % 16, i % 2, 0), i);
            Due.due("told(16)", x.told(16), i);
        }
        Says.promise(27, "UNKNOWN, OUTSIDE (pair 0 .. 15), FULL (20).");
        for (int[] n : NO_SQUARE) {
            String call = n[0] + ", " + n[1] + ")";
            Says.refused(UNKNOWN, "write(0, " + call, LineEdges::lively, y -> y.write(0, n[0], n[1]));
            Due.due("write(16, " + call, lively().write(16, n[0], n[1]), UNKNOWN);
            Due.due("write(0, " + call + " to a full one", full().write(0, n[0], n[1]), UNKNOWN);
        }
        Says.refused(UNKNOWN, "write(0, 0, 0) without SQUARES", CanoeSides::new, y -> y.write(0, 0, 0));
        Due.due("write(16, 0, 0) without SQUARES", new CanoeSides().write(16, 0, 0), UNKNOWN);
        for (int pair : new int[] {-1, 16, Integer.MIN_VALUE, Integer.MAX_VALUE}) {
            Says.refused(OUTSIDE, "write(" + pair + ", 0, 0)", LineEdges::lively, y -> y.write(pair, 0, 0));
            Due.due("write(" + pair + ", 0, 0) to a full one", full().write(pair, 0, 0), OUTSIDE);
        }
        for (int pair : new int[] {0, 15}) {
            Due.due("write(" + pair + ", 7, 0)", lively().write(pair, 7, 0), 2);
            Says.refused(FULL, "write(" + pair + ", 7, 0), the 21st", LineEdges::full, y -> y.write(pair, 7, 0));
        }
    }

    private static void judge() {
        Says.terms("THE BOOK (20 at most): strokes as PAIRS and where it is told to be behind each, from now: WRONG: the first that is"
            + " otherwise; NONE.");
        for (int wrong = 0; wrong <= 20; wrong++) {
            CanoeSides x = Due.on("r3 1...;p1 1 20 2;b0 0 2;");
            for (int i = 0; i < 20; i++) {
                x.write(i % 2 == 0 ? 0 : 10, i >= wrong ? 2 : i % 2 == 0 ? 1 : 0, 0);
            }
            Due.due("wrong from line " + wrong + " on", x.judge(), wrong < 20 ? wrong : NONE);
        }
        CanoeSides now = Due.on("r4 1....;p1 1 20 2;b0 0 2;w1 2;");
        now.write(0, 1, 0);
        now.write(15, 2, 0);
        Due.due("the wind at the second", now.judge(), NONE);
        now.stroke(3, 3);
        Due.due("from now it is at the first", now.judge(), 0);
        now.set(1, 0, 6);
        Due.due("from there it is on to the west and driven back at the first, not driven at the second", now.judge(), 1);
        Says.promise(28, "WRONG; NONE.");
        CanoeSides none = Due.on("r4 1....;");
        Due.due("no BOOK", none.judge(), NONE);
        none.write(15, 0, 0);
        Due.due("as told", none.judge(), NONE);
        none.write(15, 1, 0);
        Due.due("the second is wrong", none.judge(), 1);
        none.write(15, 0, 0);
        Due.due("the first that is", none.judge(), 1);
        Says.promise(28, "NOT: no SQUARES.");
        Says.refused(NOT, "judge()", CanoeSides::new, CanoeSides::judge);
    }

    private static void tear() {
        Says.promise(29, "THE LINE, THE BOOK are empty: how much both had.");
        CanoeSides none = new CanoeSides();
        Due.due("tear() without SQUARES", none.tear(), 0);
        Due.due("tear() of nothing", Due.on(EAST).tear(), 0);
        CanoeSides x = full();
        Due.due("tear() of all", x.tear(), 24);
        Due.due("told(15)", x.told(15), 0);
        Due.due("told(16)", x.told(16), 0);
        Due.due("fits(NONE)", x.fits(NONE), 1);
        Due.due("judge()", x.judge(), NONE);
        Due.due("tear() again", x.tear(), 0);
        Due.due("line(1, 0)", x.line(1, 0), 1);
        Due.due("tear() of a LINE alone", x.tear(), 1);
        Due.due("write(0, 1, 0)", x.write(0, 1, 0), 1);
        Due.due("tear() of a BOOK alone", x.tear(), 1);
        CanoeSides y = lively();
        y.tear();
        CanoeSides z = Due.on(EAST + "p4 2 20 3;g7 0 8;w1 9;");
        z.seed(5);
        z.keep(1);
        z.drift(2);
        Says.same("all else stays", y, z);
    }
}
