/** The edges of what is TRIED, and of promises 13 to 23, sentence by sentence. */
final class WayEdges {
    private static final int NONE = CanoeSides.NONE, OUTSIDE = CanoeSides.OUTSIDE, NOT = CanoeSides.NOT;
    private static final int HELD = 15, BOTH_BACK = 10;
    private static final String OPEN = "r8 6" + "........".repeat(6) + ";";
    /** Two who neither turn it nor push it: seven SQUARES by WIND alone, at strokes 9, 18, .. 63. */
    private static final String DRIVEN = "r8 1........;p1 1 20 20;b0 0 2;g7 0 8;w1 9;";
    /** The same by streams, a SQUARE a stroke, 31 of them from the first; a gust to the south leads nearer. */
    private static final String STREAMS = "r8 4eeeeeees swwwwwww eeeeeees wwwwwwww;p1 1 20 20;g0 3 8;w2 9;";
    /** Two SQUARES by both, one by one alone, none turned. */
    private static final String STRAIGHT = "p1 1 20 1;";
    private static final String THERE = "r3 1...;b1 0 2;g1 0 8;w1 3;", NO_GOAL = "r3 1...;w1 3;", NEVER = "r3 1.#.;g2 0 8;w1 3;";
    private static final int[] FAR_OFF = {Integer.MIN_VALUE, Integer.MAX_VALUE};

    private WayEdges() {
    }

    static void all() {
        nothingChanges();
        pairs();
        fewest();
        calls();
        mute();
        round();
        off();
        best();
        still();
        surely();
        surelyThirty();
        alone();
        third();
        rules();
        rulesOneByOne();
    }

    private static CanoeSides held(String text, int strokes) {
        CanoeSides x = Due.on(text);
        for (int i = 0; i < strokes; i++) {
            x.stroke(3, 3);
        }
        return x;
    }

    private static CanoeSides lively() {
        CanoeSides x = Due.on("r5 3..... .#o#. .e...;p1 2 3 2;b1 0 2;g4 2 4;w1 4;hrlbhhhhh;");
        x.seed(11);
        x.stroke(0, 1);
        x.keep(0);
        x.drift(2);
        x.line(2, 0);
        x.write(1, 2, 0);
        return x;
    }

    private static CanoeSides asked() {
        CanoeSides x = lively();
        for (int i = -1; i < 4; i++) {
            x.fewest(i);
            x.still(i);
            x.fits(i);
        }
        for (int pair = 0; pair < 16; pair++) {
            x.calls(pair, pair % 2);
            x.mute(pair, 99 - pair, pair % 3);
            x.round(pair, pair % 2);
        }
        x.off(3, 99, 0);
        x.off(3, 99, 1);
        x.best(99);
        x.surely(0);
        x.surely(1);
        x.alone();
        x.third(9);
        x.rules(0);
        x.rules(1);
        x.rules(2);
        x.gave(0);
        x.gave(1);
        x.judge();
        return x;
    }

    private static void nothingChanges() {
        Says.terms("TRIED from now; nothing changes by it.");
        Says.same("asked all", asked(), lively());
        CanoeSides x = Due.on(DRIVEN);
        Due.due("mute(15, 9, 0) at first", x.mute(HELD, 9, 0), 10);
        Due.due("mute(15, 8, 0) at first", x.mute(HELD, 8, 0), 0);
        x.stroke(3, 3);
        Due.due("mute(15, 8, 0) from now", x.mute(HELD, 8, 0), 10);
        x.set(5, 0, 2);
        Due.due("mute(15, 8, 0) from there", x.mute(HELD, 8, 0), 60);
    }

    private static void pairs() {
        Says.terms("PAIRS of strokes: 4 times the first one's and the other's (0 .. 15).");
        CanoeSides x = Due.on(OPEN + "p3 2 5 2;b3 3 1;");
        for (int pair = 0; pair < 16; pair++) {
            Due.due("where by " + pair, x.mute(pair, 1, 0), x.would(pair / 4, pair % 4, 0));
            Due.due("HEADING by " + pair, x.mute(pair, 1, 1), x.would(pair / 4, pair % 4, 1));
        }
    }

    // ---- promise 13

    private static void fewest() {
        Says.terms("FEWEST strokes to THE GOAL (0: it is there; 60 at most): of like ones the first (PAIR by PAIR): how many; the i-th PAIR;"
            + " NONE.");
        Due.due("it is there", Due.on(THERE).fewest(NONE), 0);
        Due.due("it is there, no PAIR", Due.on(THERE).fewest(0), NONE);
        Due.due("60", held(DRIVEN, 3).fewest(NONE), 60);
        Due.due("60, the first PAIR", held(DRIVEN, 3).fewest(0), 0);
        Due.due("60, the last PAIR", held(DRIVEN, 3).fewest(59), 0);
        Due.due("60, no more PAIR", held(DRIVEN, 3).fewest(60), NONE);
        Due.due("61", held(DRIVEN, 2).fewest(NONE), NONE);
        Due.due("61, a PAIR", held(DRIVEN, 2).fewest(0), NONE);
        Due.due("63", held(DRIVEN, 0).fewest(NONE), NONE);
        Due.due("59", held(DRIVEN, 4).fewest(NONE), 59);
        CanoeSides x = Due.on("r5 1.....;" + STRAIGHT + "b0 0 2;g3 0 8;");
        Due.due("two and one, or one and two", x.fewest(NONE), 2);
        Due.due("two first, by 0", x.fewest(0), 0);
        Due.due("then one, by 3", x.fewest(1), 3);
        Due.due("no third", x.fewest(2), NONE);
        CanoeSides one = Due.on("r5 1.....;" + STRAIGHT + "b0 0 2;g1 0 8;");
        Due.due("0, 1 and 2 lead not there: the first that does", one.fewest(0), 3);
        CanoeSides back = Due.on("r5 1.....;" + STRAIGHT + "b4 0 2;g2 0 8;");
        Due.due("both back", back.fewest(0), BOTH_BACK);
        int[] row = {5, 1, 0, 1, 5, 0, 1};
        String far = "r8 6 ........ ...oo... ..#..#.. .e.nn.w. ..s..#.. ........;p3 2 5 3;b0 5 2;g7 0 6;w3 3;";
        CanoeSides walked = Due.on(far);
        for (int i = 0; i < row.length; i++) {
            Due.due("the PAIR " + i + " of fourteen", Due.on(far).fewest(i), row[i]);
            Due.due("so many are left", walked.fewest(NONE), 14 - i);
            walked.stroke(row[i] / 4, row[i] % 4);
        }
        Says.promise(13, "FEWEST: i = NONE how many, else the i-th PAIR; NONE (without a GOAL, too).");
        for (int i : new int[] {-2, 2, 3, 60, 61, Integer.MIN_VALUE, Integer.MAX_VALUE}) {
            Due.due("fewest(" + i + ") of two", x.fewest(i), NONE);
        }
        for (int i = -2; i <= 1; i++) {
            Due.due("fewest(" + i + ") without a GOAL", Due.on(NO_GOAL).fewest(i), NONE);
            Due.due("fewest(" + i + ") that is never there", Due.on(NEVER).fewest(i), NONE);
        }
        CanoeSides heading = Due.on("r1 1.;p1 1 3 1;g0 0 7;");
        Due.due("its HEADING counts: both right", heading.fewest(0), 5);
        Due.due("one stroke", heading.fewest(NONE), 1);
        Due.due("any HEADING", Due.on("r1 1.;p1 1 3 1;g0 0 8;").fewest(NONE), 0);
        CanoeSides by = Due.on("r4 1....;p9 9 20 1;b0 0 2;g1 0 2;");
        Due.due("what it goes by it has not come to", by.fewest(NONE), 3);
        Says.promise(13, "NOT: no SQUARES.");
        for (int i : new int[] {-2, NONE, 0, 60, Integer.MIN_VALUE, Integer.MAX_VALUE}) {
            Says.refused(NOT, "fewest(" + i + ")", CanoeSides::new, y -> y.fewest(i));
        }
    }

    // ---- promise 14

    private static void calls(String name, CanoeSides x, int pair, int calls, int strokes) {
        Due.due(name + ", calls", x.calls(pair, 0), calls);
        Due.due(name + ", strokes", x.calls(pair, 1), strokes);
    }

    private static void calls() {
        Says.terms("CALLS: they go on with the PAIR that is told, till a call changes it to any other one (for the next stroke on): the fewest"
            + " calls, then the fewest strokes (60 at most) by which it comes to THE GOAL; both; NONE.");
        CanoeSides x = Due.on("r5 1.....;" + STRAIGHT + "b0 0 2;g3 0 8;");
        calls("one SQUARE a stroke, no call", x, 3, 0, 3);
        calls("two, then a call for one", x, 0, 1, 2);
        calls("a call at once, not two for fewer strokes", x, HELD, 1, 3);
        calls("both back: a call at once", x, BOTH_BACK, 1, 3);
        for (int pair = 0; pair < 16; pair++) {
            calls("it is there, " + pair, Due.on(THERE), pair, 0, 0);
            calls("60, " + pair, held(DRIVEN, 3), pair, 0, 60);
            calls("61, " + pair, held(DRIVEN, 2), pair, NONE, NONE);
        }
        String both = "r8 1........;" + STRAIGHT + "b0 0 2;g7 0 8;w1 9;";
        calls("no call, 60 strokes of the WIND", held(both, 3), HELD, 0, 60);
        calls("61 are too many: a call", held(both, 2), HELD, 1, 4);
        Says.promise(14, "CALLS from a PAIR (0 .. 15): what = 0 calls, 1 strokes; NONE.");
        for (int pair = 0; pair < 16; pair++) {
            calls("without a GOAL, " + pair, Due.on(NO_GOAL), pair, NONE, NONE);
            calls("never, " + pair, Due.on(NEVER), pair, NONE, NONE);
        }
        CanoeSides last = Due.on("r5 1.....;p1 1 20 2;b0 0 2;g1 0 8;");
        calls("from the last PAIR", last, 15, 1, 1);
        calls("from the first", last, 0, 0, 1);
        Says.promise(14, "OUTSIDE, NOT: no SQUARES.");
        for (int odd : new int[] {-1, 16, FAR_OFF[0], FAR_OFF[1]}) {
            Says.refused(OUTSIDE, "calls(" + odd + ", 0)", WayEdges::lively, y -> y.calls(odd, 0));
            Says.refused(OUTSIDE, "calls(" + odd + ", 1) without SQUARES", CanoeSides::new, y -> y.calls(odd, 1));
        }
        for (int odd : new int[] {-1, 2, FAR_OFF[0], FAR_OFF[1]}) {
            Says.refused(OUTSIDE, "calls(0, " + odd + ")", WayEdges::lively, y -> y.calls(0, odd));
            Says.refused(OUTSIDE, "calls(15, " + odd + ") without SQUARES", CanoeSides::new, y -> y.calls(15, odd));
        }
        Says.refused(NOT, "calls(0, 0)", CanoeSides::new, y -> y.calls(0, 0));
        Says.refused(NOT, "calls(15, 1)", CanoeSides::new, y -> y.calls(15, 1));
    }

    // ---- promise 15

    private static void mute() {
        Says.terms("MUTE for n strokes (0 .. 99): the first strokes of both are told as a PAIR; then each does by its HABIT what it does"
            + " behind the other's latest: where it is then; its HEADING; the PAIR that comes next.");
        CanoeSides x = Due.on(OPEN + "p1 1 3 1;b3 2 5;hrlbh hblr;");
        for (int pair = 0; pair < 16; pair++) {
            Due.due("mute(" + pair + ", 0, 0)", x.mute(pair, 0, 0), 32);
            Due.due("mute(" + pair + ", 0, 1)", x.mute(pair, 0, 1), 5);
            Due.due("mute(" + pair + ", 0, 2)", x.mute(pair, 0, 2), pair);
        }
        int[] next = {6, 10, 8, 4};
        for (int n = 0; n <= 3; n++) {
            Due.due("mute(6, " + n + ", 2)", x.mute(6, n, 2), next[n]);
        }
        CanoeSides round = Due.on("r1 1.;p1 1 3 1;");
        Due.due("98 eighths", round.mute(0, 98, 1), 2);
        Due.due("99 eighths", round.mute(0, 99, 1), 3);
        Due.due("99 strokes: the other way round", round.mute(1, 99, 2), 4);
        Due.due("98 strokes: as at first", round.mute(1, 98, 2), 1);
        CanoeSides driven = Due.on(DRIVEN);
        Due.due("62 strokes of WIND", driven.mute(HELD, 62, 0), 60);
        Due.due("63 strokes of WIND", driven.mute(HELD, 63, 0), 70);
        Due.due("99 strokes of WIND", driven.mute(HELD, 99, 0), 70);
        Says.promise(15, "MUTE: what = 0 where (a PAIR of a SQUARE), 1 HEADING, 2 the PAIR of strokes that comes next.");
        CanoeSides each = Due.on(OPEN + "p1 1 3 1;b3 2 5;hhhhhbbbb;");
        Due.due("where", each.mute(0, 1, 0), 12);
        Due.due("HEADING", each.mute(0, 1, 1), 6);
        Due.due("in front holds, behind back", each.mute(0, 1, 2), 14);
        Says.promise(15, "OUTSIDE, NOT: no SQUARES.");
        int[][] odd = {{-1, 0, 0}, {16, 0, 0}, {0, -1, 0}, {0, 100, 0}, {0, 0, -1}, {0, 0, 3}, {15, 100, 2}, {16, 99, 2}, {15, 99, 3},
            {FAR_OFF[0], 1, 1}, {FAR_OFF[1], 1, 1}, {1, FAR_OFF[0], 1}, {1, FAR_OFF[1], 1}, {1, 1, FAR_OFF[0]}, {1, 1, FAR_OFF[1]}};
        for (int[] o : odd) {
            String call = "mute(" + o[0] + ", " + o[1] + ", " + o[2] + ")";
            Says.refused(OUTSIDE, call, WayEdges::lively, y -> y.mute(o[0], o[1], o[2]));
            Due.due(call + " without SQUARES", new CanoeSides().mute(o[0], o[1], o[2]), OUTSIDE);
        }
        Says.refused(NOT, "mute(0, 0, 0)", CanoeSides::new, y -> y.mute(0, 0, 0));
        Says.refused(NOT, "mute(15, 99, 2)", CanoeSides::new, y -> y.mute(15, 99, 2));
    }

    // ---- promise 16

    private static void round(String name, CanoeSides x, int pair, int lead, int loop) {
        Due.due(name + ", LEAD", x.round(pair, 0), lead);
        Due.due(name + ", LOOP", x.round(pair, 1), loop);
    }

    private static void round() {
        Says.terms("ROUND: LEAD: how many strokes till all stands for the first time as it will stand again (SQUARE, HEADING, PAIR, and the"
            + " time to the WIND); LOOP: behind how many more it does.");
        round("nothing stirs", Due.on("r1 1.;"), HELD, 0, 1);
        round("the time to the WIND", Due.on("r1 1.;w1 9;"), HELD, 0, 9);
        round("the time to the WIND, from now", held("r1 1.;w1 9;", 4), HELD, 0, 9);
        round("the PAIR", Due.on("r1 1.;p1 1 20 1;"), 1, 0, 2);
        round("the HEADING", Due.on("r1 1.;p1 1 3 1;"), 0, 0, 8);
        round("the PAIR, once", Due.on("r1 1.;p1 1 20 1;hhhhhhhhh;"), 0, 1, 1);
        round("SQUARES till the end", Due.on("r8 1........;p1 1 20 2;b0 0 2;"), 0, 7, 1);
        round("SQUARES and the time to the WIND", Due.on(DRIVEN), HELD, 63, 9);
        round("from now", held(DRIVEN, 8), HELD, 55, 9);
        round("behind the end", held(DRIVEN, 63), HELD, 0, 9);
        round("a round of streams", Due.on("r2 2esnw;p1 1 20 20;"), HELD, 0, 4);
        Says.promise(16, "ROUND: what = 0 LEAD, 1 LOOP.");
        round("by a PAIR of 0", Due.on("r8 1........;p1 1 20 2;b5 0 2;"), 0, 2, 1);
        round("by a PAIR of 15", Due.on("r8 1........;p1 1 20 2;b5 0 2;"), 15, 0, 1);
        Says.promise(16, "OUTSIDE, NOT: no SQUARES.");
        for (int odd : new int[] {-1, 16, FAR_OFF[0], FAR_OFF[1]}) {
            Says.refused(OUTSIDE, "round(" + odd + ", 0)", WayEdges::lively, y -> y.round(odd, 0));
            Due.due("round(" + odd + ", 1) without SQUARES", new CanoeSides().round(odd, 1), OUTSIDE);
        }
        for (int odd : new int[] {-1, 2, FAR_OFF[0], FAR_OFF[1]}) {
            Says.refused(OUTSIDE, "round(0, " + odd + ")", WayEdges::lively, y -> y.round(0, odd));
            Due.due("round(15, " + odd + ") without SQUARES", new CanoeSides().round(15, odd), OUTSIDE);
        }
        Says.refused(NOT, "round(0, 0)", CanoeSides::new, y -> y.round(0, 0));
        Says.refused(NOT, "round(15, 1)", CanoeSides::new, y -> y.round(15, 1));
    }

    // ---- promises 17 and 18

    private static void off(String name, CanoeSides x, int k, int n, int east, int north) {
        Due.due(name + ", east", x.off(k, n, 0), east);
        Due.due(name + ", north", x.off(k, n, 1), north);
    }

    private static void off() {
        Says.terms("OFF: on open water without end, no wind, both paddle left k times, then both right k times, and so on, n strokes (1 .. 99)"
            + " heading north: how many SQUARES it is off to the east (less: west), on to the north.");
        CanoeSides x = Due.on("r1 1o;p1 1 3 2;b0 0 4;w1 1;");
        off("one stroke", x, 1, 1, 1, 1);
        off("two, by one and one", x, 1, 2, 1, 2);
        off("three", x, 1, 3, 2, 3);
        off("two, by two and two", x, 2, 2, 2, 1);
        off("three: right at the third", x, 2, 3, 3, 2);
        off("four", x, 2, 4, 3, 3);
        off("five: left again", x, 2, 5, 4, 4);
        off("four, by one and one: right again", x, 1, 4, 2, 4);
        off("five, by one and one: left again", x, 1, 5, 3, 5);
        off("to the west: seven left, two right", x, 7, 9, -2, -2);
        off("left once round", x, 8, 8, 0, 0);
        off("and right once round", x, 8, 16, 0, 0);
        off("straight on, without end", Due.on("r1 1.;" + STRAIGHT), 1, 99, 0, 198);
        off("without SQUARES: (2 + 4) / 2 turns 3, 2 on", new CanoeSides(), 1, 1, 2, -2);
        Says.promise(17, "OFF: what = 0 east, 1 north.");
        off("99 left: twelve rounds, and three eighths", x, 99, 99, 3, 0);
        off("98 left, one right", x, 98, 99, 3, 2);
        Says.promise(17, "OUTSIDE (k 1 .. 99).");
        int[][] odd = {{0, 1, 0}, {100, 1, 0}, {-1, 1, 0}, {1, 0, 0}, {1, 100, 0}, {1, -1, 0}, {1, 1, -1}, {1, 1, 2}, {100, 99, 1},
            {99, 100, 1}, {99, 99, 2}, {FAR_OFF[0], 1, 0}, {FAR_OFF[1], 1, 0}, {1, FAR_OFF[0], 0}, {1, FAR_OFF[1], 0},
            {1, 1, FAR_OFF[0]}, {1, 1, FAR_OFF[1]}};
        for (int[] o : odd) {
            String call = "off(" + o[0] + ", " + o[1] + ", " + o[2] + ")";
            Says.refused(OUTSIDE, call, WayEdges::lively, y -> y.off(o[0], o[1], o[2]));
            Due.due(call + " without SQUARES", new CanoeSides().off(o[0], o[1], o[2]), OUTSIDE);
        }
    }

    private static void best() {
        Says.terms("BEST: the k of 1 to 9 by which it is off the least, either way, of like ones farthest north, then the least.");
        String turnsOne = "r1 1.;p1 1 3 2;";
        Due.due("all alike: the least", Due.on("r1 1.;" + STRAIGHT).best(99), 1);
        Due.due("one stroke: all alike", Due.on(turnsOne).best(1), 1);
        CanoeSides west = Due.on("r1 1.;p3 1 1 4;");
        off("five eighths, by 1", west, 1, 2, -1, 0);
        off("five eighths, by 2", west, 2, 2, 0, -1);
        Due.due("either way: 0, not -1", west.best(2), 2);
        CanoeSides three = Due.on("r1 1.;p1 1 1 1;");
        off("three eighths, by 1", three, 1, 3, 4, -2);
        off("three eighths, by 2", three, 2, 3, 2, -4);
        off("three eighths, by 3", three, 3, 3, 2, 0);
        off("three eighths, by 4", three, 4, 3, 2, 0);
        Due.due("of like ones farthest north, then the least", three.best(3), 3);
        CanoeSides ten = Due.on(turnsOne);
        off("ten strokes, by 9", ten, 9, 10, 1, 2);
        off("ten strokes, by 8", ten, 8, 10, -2, 1);
        Due.due("9 is one of them", ten.best(10), 9);
        off("fourteen strokes, by 7", ten, 7, 14, 1, -2);
        off("fourteen strokes, by 10", ten, 10, 14, 1, 4);
        Due.due("10 is none of them", ten.best(14), 7);
        Says.promise(18, "BEST.");
        Due.due("best(99)", Due.on("r1 1.;" + STRAIGHT).best(99), 1);
        Due.due("without SQUARES", new CanoeSides().best(1), 1);
        Says.promise(18, "OUTSIDE.");
        for (int n : new int[] {0, 100, -1, FAR_OFF[0], FAR_OFF[1]}) {
            Says.refused(OUTSIDE, "best(" + n + ")", WayEdges::lively, y -> y.best(n));
            Due.due("best(" + n + ") without SQUARES", new CanoeSides().best(n), OUTSIDE);
        }
    }

    // ---- promise 19

    private static void still(String name, CanoeSides x, int... row) {
        Due.due(name + ", how many", x.still(NONE), row.length == 0 ? NONE : row.length);
        for (int i = 0; i <= 4; i++) {
            Due.due(name + ", the PAIR " + i, x.still(i), i < row.length ? row[i] : NONE);
        }
    }

    private static void still() {
        Says.terms("STILL: the fewest strokes (1 .. 3) behind which SQUARE and HEADING are as now: how many, the i-th PAIR of the first row;"
            + " NONE.");
        still("both back turn not, and go not from the end", Due.on("r1 1.;"), BOTH_BACK);
        still("left, back", Due.on(OPEN + STRAIGHT + "b3 3 0;"), 2);
        still("the HEADING, too: a whole round", Due.on("r1 1.;p2 3 1 1;"), 0);
        still("driven from reeds, both back to them", held("r3 1.o.;p1 1 20 2;b1 0 2;w1 2;", 1), 0, BOTH_BACK);
        still("no wind yet", Due.on("r3 1.o.;p1 1 20 2;b1 0 2;w1 2;"), 0);
        String round = "r2 2esnw;p1 1 20 20;b0 0 0;w2 3;";
        CanoeSides three = held(round, 2);
        three.set(0, 0, 0);
        still("round by streams and one gust", three, 0, 0, 0);
        still("no wind, then wind to the west", Due.on("r3 2wes.ns;p3 4 2 2;w3 2;b1 0 2;"), 15, 11);
        still("no wind, then wind to the east", Due.on("r3 2.nswse;p3 3 3 3;w1 2;b2 0 2;"), 11, 15);
        still("the first of three by 5", Due.on("r3 1wen;p1 3 3 4;w1 3;b1 0 0;"), 5, 0, 2);
        still("the second of three by 10", Due.on("r3 1nws;p2 4 3 3;w3 3;b1 0 0;"), 1, 10, 4);
        still("the second of three by 4", Due.on("r2 2.eww;p1 4 4 1;w2 3;b1 1 5;"), 1, 4, 2);
        still("round by four streams", Due.on("r2 2esnw;p1 1 20 20;b0 0 0;"));
        still("away, and never back", Due.on("r3 1.ee;p1 1 20 20;b1 0 0;"));
        Says.promise(19, "STILL: i = NONE how many, else the i-th PAIR; NONE.");
        for (int i : new int[] {-2, 3, 4, FAR_OFF[0], FAR_OFF[1]}) {
            Due.due("still(" + i + ") of three", three.still(i), NONE);
        }
        Says.promise(19, "NOT: no SQUARES.");
        for (int i : new int[] {-2, NONE, 0, 3, FAR_OFF[0], FAR_OFF[1]}) {
            Says.refused(NOT, "still(" + i + ")", CanoeSides::new, y -> y.still(i));
        }
    }

    // ---- promise 20

    private static void surely(String name, CanoeSides x, int strokes, int pair) {
        Due.due(name + ", how many", x.surely(0), strokes);
        Due.due(name + ", the PAIR", x.surely(1), pair);
    }

    private static void surely() {
        Says.terms("SURELY: the fewest strokes (30 at most) by which it comes to THE GOAL, whatever gusts come: behind each stroke (streams"
            + " too) a gust of the WIND's way may drive it one SQUARE, or not, as it is worst (in place of its times); each PAIR is chosen"
            + " when all that was is seen; NONE (without WIND, too); the first PAIR of the least ones.");
        surely("without WIND", Due.on("r3 1...;p1 1 20 1;b0 0 2;g2 0 8;"), NONE, NONE);
        surely("without WIND, there", Due.on("r3 1...;b1 0 2;g1 0 8;"), NONE, NONE);
        surely("without a GOAL", Due.on(NO_GOAL), NONE, NONE);
        surely("never", Due.on(NEVER), NONE, NONE);
        surely("at the end no gust drives it on", Due.on("r3 1...;" + STRAIGHT + "b0 0 2;g2 0 8;w1 5;"), 1, 0);
        surely("a gust may drive it by", Due.on("r4 1....;" + STRAIGHT + "b0 0 2;g2 0 8;w1 5;"), NONE, NONE);
        surely("a gust away may come", Due.on("r3 1...;" + STRAIGHT + "b0 0 2;g2 0 8;w3 5;"), NONE, NONE);
        surely("no gust may come, in its time, too", Due.on("r2 1.o;p1 1 20 20;g1 0 8;w1 1;"), NONE, NONE);
        surely("ahead of its time, too", held("r3 1...;p1 1 20 2;b0 0 2;g1 0 8;w1 9;", 1), NONE, NONE);
        surely("a stream that is a gust's SQUARE short", Due.on("r3 1e..;p1 1 20 20;g2 0 8;w1 5;"), NONE, NONE);
        surely("both back", Due.on("r4 1....;" + STRAIGHT + "b0 0 6;g3 0 8;w1 3;"), 2, BOTH_BACK);
        surely("by turns as the gusts come", Due.on("r3 2......;p3 1 2 3;g2 1 8;w2 1;"), 2, 0);
        CanoeSides gust = Due.on("r3 2......;p3 1 2 3;g2 1 8;w2 1;");
        gust.set(1, 0, 2);
        surely("no gust has come: to the south east", gust, 1, 3);
        gust.set(1, 1, 2);
        surely("a gust has come: straight on", gust, 1, 1);
        Says.promise(20, "SURELY: what = 0 how many, 1 the PAIR (NONE: none, or 0).");
        surely("there", Due.on(THERE), 0, NONE);
        surely("there, its HEADING", Due.on("r3 1...;b1 0 2;g1 0 2;w1 3;"), 0, NONE);
        Says.promise(20, "OUTSIDE, NOT: no SQUARES.");
        for (int what : new int[] {-1, 2, FAR_OFF[0], FAR_OFF[1]}) {
            Says.refused(OUTSIDE, "surely(" + what + ")", WayEdges::lively, y -> y.surely(what));
            Says.refused(OUTSIDE, "surely(" + what + ") without SQUARES", CanoeSides::new, y -> y.surely(what));
        }
        Says.refused(NOT, "surely(0)", CanoeSides::new, y -> y.surely(0));
        Says.refused(NOT, "surely(1)", CanoeSides::new, y -> y.surely(1));
    }

    private static void surelyThirty() {
        Says.terms("(30 at most)");
        CanoeSides x = Due.on(STREAMS);
        surely("31 SQUARES of stream, if no gust comes", x, NONE, NONE);
        x.set(1, 0, 0);
        surely("30", x, 30, 0);
        x.set(2, 0, 0);
        surely("29", x, 29, 0);
        x.set(0, 1, 0);
        surely("16", x, 16, 0);
        x.set(1, 3, 0);
        surely("1", x, 1, 0);
        CanoeSides now = held(STREAMS, 8);
        now.set(1, 0, 0);
        surely("30, though the WIND's time is come", now, 30, 0);
    }

    // ---- promises 21 and 22

    private static void alone() {
        Says.terms("ALONE: the one behind holds always: FEWEST then.");
        String text = "r5 1.....;" + STRAIGHT + "b0 0 2;g4 0 8;";
        Due.due("two SQUARES by both", Due.on(text).fewest(NONE), 2);
        Due.due("one alone", Due.on(text).alone(), 4);
        Due.due("60", held(DRIVEN, 3).alone(), 60);
        Due.due("61", held(DRIVEN, 2).alone(), NONE);
        CanoeSides turn = Due.on("r1 1.;p1 9 1 1;g0 0 3;");
        Due.due("an eighth a stroke in front", turn.alone(), 3);
        Due.due("to the left, too", Due.on("r1 1.;p1 9 1 1;g0 0 6;").alone(), 2);
        Due.due("back, too", Due.on("r5 1.....;" + STRAIGHT + "b4 0 2;g3 0 8;").alone(), 1);
        Says.promise(21, "ALONE; NONE.");
        Due.due("there", Due.on(THERE).alone(), 0);
        Due.due("without a GOAL", Due.on(NO_GOAL).alone(), NONE);
        Due.due("never", Due.on(NEVER).alone(), NONE);
        Due.due("too weak", Due.on("r5 1.....;p1 9 20 2;b0 0 2;g4 0 8;").alone(), NONE);
        Says.promise(21, "NOT: no SQUARES.");
        Says.refused(NOT, "alone()", CanoeSides::new, CanoeSides::alone);
    }

    private static void third() {
        Says.terms("A THIRD kneels, strength c (1 .. 9): turns like the one in front, strikes as that one does: FEWEST then. How many, both.");
        String text = "r5 1.....;p1 1 20 4;b0 0 2;g4 0 8;";
        int[] strokes = {0, NONE, 4, 4, 4, 4, 2, 2, 2, 2};
        for (int c = 1; c <= 9; c++) {
            Due.due("third(" + c + "): (1 + 1 + c) / 4 on", Due.on(text).third(c), strokes[c]);
            Due.due("third(" + c + ") 60", held(DRIVEN, 3).third(c), 60);
            Due.due("third(" + c + ") 61", held(DRIVEN, 2).third(c), NONE);
            Due.due("third(" + c + "): (1 + 2 + c) / 9 turned", Due.on("r1 1.;p1 1 9 20;g0 0 1;").third(c), c < 6 ? NONE : 1);
        }
        Due.due("the one behind paddles, too: (9 + 1 + 1) / 11 on", Due.on("r5 1.....;p1 1 20 11;b0 0 2;g1 0 8;").third(9), 1);
        CanoeSides x = Due.on(text);
        Due.due("a third", x.third(9), 2);
        Due.due("FEWEST of the two stays", x.fewest(NONE), NONE);
        Due.due("so does what a STROKE would do", x.would(0, 1, 3), 0);
        for (int c = 1; c <= 9; c++) {
            CanoeSides each = Due.on("r5 1.....;p1 1 20 2;b0 0 2;g4 0 8;");
            Due.due("third(" + c + "): (1 + 1 + c) / 2 on", each.third(c), c == 1 ? 4 : 2);
            Due.due("two behind it", each.fewest(NONE), 4);
            Due.due("alone behind it", each.alone(), NONE);
            Due.due("third(" + c + ") behind both", each.third(c), c == 1 ? 4 : 2);
        }
        Says.promise(22, "A THIRD; NONE.");
        Due.due("there", Due.on(THERE).third(1), 0);
        Due.due("without a GOAL", Due.on(NO_GOAL).third(1), NONE);
        Due.due("never", Due.on(NEVER).third(9), NONE);
        Says.promise(22, "OUTSIDE, NOT: no SQUARES.");
        for (int c : new int[] {0, 10, -1, FAR_OFF[0], FAR_OFF[1]}) {
            Says.refused(OUTSIDE, "third(" + c + ")", WayEdges::lively, y -> y.third(c));
            Says.refused(OUTSIDE, "third(" + c + ") without SQUARES", CanoeSides::new, y -> y.third(c));
        }
        Says.refused(NOT, "third(1)", CanoeSides::new, y -> y.third(1));
        Says.refused(NOT, "third(9)", CanoeSides::new, y -> y.third(9));
    }

    // ---- promise 23

    private static void rules(String name, CanoeSides x, int strokes, int front, int behind) {
        Due.due(name + ", strokes", x.rules(0), strokes);
        Due.due(name + ", the rule in front", x.rules(1), front);
        Due.due(name + ", the rule behind", x.rules(2), behind);
    }

    private static void rules() {
        Says.terms("pairs of rules by which it comes to THE GOAL (60 strokes at most) soonest; of like ones the first: how many strokes; the"
            + " rule of each; NONE.");
        rules("60", held(DRIVEN, 3), 60, 0, 0);
        rules("61", held(DRIVEN, 2), NONE, NONE, NONE);
        rules("59", held(DRIVEN, 4), 59, 0, 0);
        rules("soonest: 3 by right and right, 7 by left and left", Due.on("r1 1.;p1 1 3 1;g0 0 7;"), 3, 1, 1);
        rules("of like ones the first: 0 1, 0 3, 2 1, 2 3", Due.on("r1 1.;p1 1 1 1;g0 0 2;"), 2, 0, 1);
        rules("of like ones the first: 1 0, 3 0, 1 2, 3 2", Due.on("r1 1.;p1 1 1 1;g0 0 4;"), 2, 1, 0);
        Says.promise(23, "RULES: what = 0 strokes, 1 the rule in front, 2 behind; NONE.");
        rules("there", Due.on(THERE), 0, 0, 0);
        rules("without a GOAL", Due.on(NO_GOAL), NONE, NONE, NONE);
        rules("never", Due.on(NEVER), NONE, NONE, NONE);
        Says.promise(23, "OUTSIDE, NOT: no SQUARES.");
        for (int what : new int[] {-1, 3, FAR_OFF[0], FAR_OFF[1]}) {
            Says.refused(OUTSIDE, "rules(" + what + ")", WayEdges::lively, y -> y.rules(what));
            Says.refused(OUTSIDE, "rules(" + what + ") without SQUARES", CanoeSides::new, y -> y.rules(what));
        }
        for (int what = 0; what <= 2; what++) {
            Due.due("rules(" + what + ") without SQUARES", new CanoeSides().rules(what), NOT);
        }
    }

    /** Each river can be come to soonest by these rules alone, or by like ones behind them; eighths by ll lr rl rr stand ahead. */
    private static void rulesOneByOne() {
        Says.terms("RULES for two who do not speak: of each: 0 always left, 1 always right, 2 like the other did, 3 the other side (back"
            + " behind back, holds behind holds), both begin 'l':");
        rules("1: ll", Due.on("r2 1..;p1 1 3 20;g1 0 1;w1 1;"), 1, 0, 0);
        rules("3 -1 1 -3: ll lr, 2", Due.on("r1 1.;p1 1 1 20;g0 0 2;"), 2, 0, 1);
        rules("3 -1 1 -3: ll rl, 4", Due.on("r1 1.;p1 1 1 20;g0 0 4;"), 2, 1, 0);
        rules("1 0 0 -1: ll rr rr, 7", Due.on("r1 1.;p1 1 3 20;g0 0 7;"), 3, 1, 1);
        rules("5 -2 2 -5: ll rl rr, 2", Due.on("r2 1..;p3 4 2 20;g1 0 2;w1 3;"), 3, 1, 2);
        rules("1 -1 1 -1: ll rr rl rl, 2", Due.on("r2 1..;p1 3 5 20;g1 0 2;w1 4;"), 4, 1, 3);
        rules("2 -1 1 -2: ll lr rr, 7", Due.on("r2 1..;p3 4 5 20;g1 0 7;w1 2;"), 3, 2, 1);
        rules("3 -2 2 -3: ll lr rr rl, 0", Due.on("r2 1..;p1 3 2 20;g1 0 0;w1 4;"), 4, 2, 3);
        rules("4 -1 1 -4: ll rr lr lr, 6", Due.on("r2 1..;p3 3 2 20;g1 0 6;w1 4;"), 4, 3, 1);
        rules("1 -1 1 -1: ll rl rr lr ll rl, 2", Due.on("r2 1..;p1 3 4 20;g1 0 2;w1 5;"), 6, 3, 2);
        rules("3 -2 2 -3: ll rr ll, 3", Due.on("r2 1..;p1 4 3 20;g1 0 3;w1 2;"), 3, 3, 3);
    }
}
