/** The edges of STROKES, and of promises 8 to 12, sentence by sentence. */
final class StrokeEdges {
    private static final int NONE = CanoeSides.NONE, UNKNOWN = CanoeSides.UNKNOWN, OUTSIDE = CanoeSides.OUTSIDE,
        NOT = CanoeSides.NOT;
    private static final int LEFT = 0, RIGHT = 1, BACK = 2, HOLD = 3;
    private static final String OPEN = "r8 6" + "........".repeat(6) + ";";
    /** Two who turn it not, and push it 2 together, 1 alone. */
    private static final String STRAIGHT = "p1 1 20 1;";
    private static final int[] ODD_STROKES = {-1, 4, Integer.MIN_VALUE, Integer.MAX_VALUE};

    private StrokeEdges() {
    }

    static void all() {
        strokesOfOne();
        headings();
        turn();
        push();
        going();
        reeds();
        stream();
        wind();
        counted();
        stroke();
        would();
        back();
        takenBack();
        set();
        drift();
        byDraws();
    }

    private static CanoeSides at(String text, int x, int y, int d) {
        CanoeSides canoe = Due.on(text);
        canoe.set(x, y, d);
        return canoe;
    }

    private static void is(String call, CanoeSides x, int place, int heading) {
        Due.due(call + ", where", x.told(7), place);
        Due.due(call + ", HEADING", x.told(8), heading);
    }

    // ---- what a stroke does

    private static void strokesOfOne() {
        Says.terms("STROKES of one: 0 'l' left, 1 'r' right, 2 'b' back, 3 'h' holds.");
        CanoeSides x = Due.on("r1 1.;p1 1 1 1;");
        int[] turns = {1, -1, 0, 0};
        int[] pushes = {1, 1, -1, 0};
        for (int s = 0; s <= 3; s++) {
            Due.due("would(" + s + ", 3, 2)", x.would(s, HOLD, 2), turns[s]);
            Due.due("would(" + s + ", 3, 3)", x.would(s, HOLD, 3), pushes[s]);
            Due.due("would(3, " + s + ", 2)", x.would(HOLD, s, 2), 2 * turns[s]);
            Due.due("would(3, " + s + ", 3)", x.would(HOLD, s, 3), pushes[s]);
        }
    }

    private static void headings() {
        Says.terms("HEADINGS: 0 north, 1 north east, 2 east, .. 7 north west.");
        int[] ahead = {32, 42, 43, 44, 34, 24, 23, 22};
        for (int d = 0; d < 8; d++) {
            CanoeSides x = at(OPEN + "p1 1 20 2;", 3, 3, d);
            Due.due("one on to " + d, x.would(LEFT, RIGHT, 0), ahead[d]);
            Due.due("one backwards from " + d, x.would(BACK, BACK, 0), 66 - ahead[d]);
            CanoeSides turning = at("r1 1.;p1 1 3 1;", 0, 0, d);
            Due.due("an eighth to the right of " + d, turning.would(LEFT, LEFT, 1), d == 7 ? 0 : d + 1);
            Due.due("an eighth to the left of " + d, turning.would(RIGHT, RIGHT, 1), d == 0 ? 7 : d - 1);
        }
    }

    private static void turn() {
        Says.terms("A STROKE of both (first the one in front):");
        CanoeSides both = Due.on("r1 1.;p1 2 1 1;");
        Due.due("left in front, 1 times 1", both.would(LEFT, HOLD, 2), 1);
        Due.due("left behind, 2 times 2", both.would(HOLD, LEFT, 2), 4);
        Due.due("back in front", both.would(BACK, HOLD, 3), -1);
        Due.due("back behind", both.would(HOLD, BACK, 3), -2);
        Says.terms("TURN: left 1, right -1, else 0, times the strength, in front once, behind twice, together, / T: so many eighths to"
            + " the right (less: to the left).");
        CanoeSides x = Due.on("r1 1.;p3 2 1 1;");
        int[] turns = {7, -1, 3, 3, 1, -7, -3, -3, 4, -4, 0, 0, 4, -4, 0, 0};
        int[] headings = {7, 7, 3, 3, 1, 1, 5, 5, 4, 4, 0, 0, 4, 4, 0, 0};
        for (int pair = 0; pair < 16; pair++) {
            Due.due("eighths by " + pair, x.would(pair / 4, pair % 4, 2), turns[pair]);
            Due.due("HEADING by " + pair, x.would(pair / 4, pair % 4, 1), headings[pair]);
        }
        CanoeSides most = Due.on("r1 1.;p9 9 1 1;b0 0 7;");
        Due.due("the most to the right", most.would(LEFT, LEFT, 2), 27);
        Due.due("thrice round and three", most.would(LEFT, LEFT, 1), 2);
        Due.due("the most to the left", most.would(RIGHT, RIGHT, 2), -27);
        Due.due("thrice round and three, to the left", most.would(RIGHT, RIGHT, 1), 4);
        CanoeSides round = Due.on("r1 1.;p2 3 1 1;b0 0 5;");
        Due.due("a whole round", round.would(LEFT, LEFT, 2), 8);
        Due.due("its HEADING", round.would(LEFT, LEFT, 1), 5);
        Due.due("a whole round to the left", round.would(RIGHT, RIGHT, 1), 5);
        Says.terms("/ cuts towards 0.");
        CanoeSides cut = Due.on("r1 1.;p1 1 2 1;");
        Due.due("3 / 2", cut.would(LEFT, LEFT, 2), 1);
        Due.due("-3 / 2", cut.would(RIGHT, RIGHT, 2), -1);
        Due.due("1 / 2", cut.would(LEFT, HOLD, 2), 0);
        Due.due("-1 / 2", cut.would(RIGHT, HOLD, 2), 0);
        Due.due("-1 / 2, its HEADING", cut.would(RIGHT, HOLD, 1), 0);
        CanoeSides together = Due.on("r1 1.;p1 1 3 3;");
        Due.due("each one's part is not cut: (1 + 2) / 3", together.would(LEFT, LEFT, 2), 1);
        CanoeSides least = Due.on("r1 1.;p9 9 20 20;");
        Due.due("27 / 20", least.would(LEFT, LEFT, 2), 1);
        Due.due("-18 / 20", least.would(HOLD, RIGHT, 2), 0);
    }

    private static void push() {
        Says.terms("PUSH: left, right 1, back -1, holds 0, times the strength, together, / P, 2 at most, -2 at least: so many SQUARES on"
            + " (less: backwards) to where it heads then.");
        CanoeSides x = Due.on(OPEN + "p3 2 20 1;b3 3 2;");
        int[] pushes = {2, 2, 1, 2, 2, 2, 1, 2, -1, -1, -2, -2, 2, 2, -2, 0};
        for (int pair = 0; pair < 16; pair++) {
            Due.due("PUSH by " + pair, x.would(pair / 4, pair % 4, 3), pushes[pair]);
            Due.due("where by " + pair, x.would(pair / 4, pair % 4, 0), 33 + 10 * pushes[pair]);
        }
        CanoeSides most = Due.on(OPEN + "p9 9 20 1;b3 3 2;");
        Due.due("18 is 2", most.would(LEFT, RIGHT, 3), 2);
        Due.due("two SQUARES", most.would(LEFT, RIGHT, 0), 53);
        Due.due("-18 is -2", most.would(BACK, BACK, 3), -2);
        Due.due("two SQUARES backwards", most.would(BACK, BACK, 0), 13);
        CanoeSides three = Due.on(OPEN + "p3 3 20 2;b3 3 2;");
        Due.due("6 / 2 is 2", three.would(LEFT, RIGHT, 3), 2);
        Due.due("-6 / 2 is -2", three.would(BACK, BACK, 3), -2);
        Due.due("3 / 2 is 1", three.would(HOLD, RIGHT, 3), 1);
        Due.due("-3 / 2 is -1", three.would(HOLD, BACK, 3), -1);
        CanoeSides cut = Due.on(OPEN + "p1 1 20 2;b3 3 2;");
        Due.due("together, then / P: (1 + 1) / 2", cut.would(LEFT, RIGHT, 3), 1);
        Due.due("1 / 2", cut.would(LEFT, HOLD, 3), 0);
        Due.due("-1 / 2", cut.would(BACK, HOLD, 3), 0);
        Due.due("-1 / 2, where", cut.would(BACK, HOLD, 0), 33);
        CanoeSides then = Due.on(OPEN + "p1 1 1 2;b3 3 0;");
        Due.due("on to where it heads then, 3", then.would(LEFT, LEFT, 0), 44);
        Due.due("on to where it heads then, 7", Due.on(OPEN + "p3 1 3 2;b3 3 0;").would(RIGHT, BACK, 0), 22);
        Due.due("backwards from where it heads then, 7", Due.on(OPEN + "p1 3 1 2;b3 3 0;").would(RIGHT, BACK, 0), 44);
    }

    private static void going() {
        Says.terms("First it turns; then it goes SQUARE by SQUARE, till a bank or the river's end is ahead (it stays ahead of it);");
        String river = "r6 1.#....;" + STRAIGHT;
        Due.due("a bank is next", at("r6 1.#....;" + STRAIGHT, 0, 0, 2).stroke(LEFT, RIGHT), 0);
        Due.due("a bank behind one SQUARE", at("r6 1..#...;" + STRAIGHT, 0, 0, 2).stroke(LEFT, RIGHT), 10);
        Due.due("a bank behind two", at("r6 1...#..;" + STRAIGHT, 0, 0, 2).stroke(LEFT, RIGHT), 20);
        Due.due("no leap over a bank, backwards", at(river, 3, 0, 2).stroke(BACK, BACK), 20);
        Due.due("the end is next", at(river, 5, 0, 2).stroke(LEFT, RIGHT), 50);
        Due.due("the end behind one SQUARE", at(river, 4, 0, 2).stroke(LEFT, RIGHT), 50);
        Due.due("the end behind two", at(river, 3, 0, 2).stroke(LEFT, RIGHT), 50);
        Due.due("the west end", at(river, 0, 0, 2).stroke(BACK, BACK), 0);
        int[][] ends = {{0, 0, 7, 0}, {0, 0, 6, 0}, {0, 0, 0, 0}, {0, 0, 1, 0}, {0, 0, 5, 0}, {7, 0, 0, 70}, {7, 0, 1, 70}, {7, 0, 2, 70},
            {7, 0, 3, 70}, {7, 5, 3, 75}, {7, 5, 4, 75}, {7, 5, 5, 75}, {7, 5, 2, 75}, {0, 5, 4, 5}, {0, 5, 5, 5}, {0, 5, 6, 5},
            {0, 5, 3, 5}, {6, 1, 1, 70}, {1, 4, 5, 5}, {6, 4, 3, 75}, {1, 1, 7, 0}};
        for (int[] e : ends) {
            CanoeSides x = at(OPEN + STRAIGHT, e[0], e[1], e[2]);
            Due.due("at " + e[0] + " " + e[1] + " to " + e[2], x.stroke(LEFT, RIGHT), e[3]);
            Due.due("its HEADING stays", x.told(8), e[2]);
        }
        CanoeSides narrow = at("r2 3......;" + STRAIGHT, 1, 0, 2);
        Due.due("a narrow river ends at its own W", narrow.stroke(LEFT, RIGHT), 10);
        CanoeSides low = at("r8 2................;" + STRAIGHT, 1, 1, 4);
        Due.due("a low river ends at its own H", low.stroke(LEFT, RIGHT), 11);
        CanoeSides slant = at("r3 3.#.#.....;" + STRAIGHT, 0, 0, 3);
        Due.due("slantwise between two banks", slant.stroke(LEFT, RIGHT), 22);
        CanoeSides turned = at("r3 3.........;p1 1 1 1;", 1, 1, 0);
        Due.due("first it turns: three eighths, then it goes", turned.stroke(LEFT, LEFT), 22);
        CanoeSides shut = Due.on("r1 1.;p1 1 1 1;");
        Due.due("where it cannot go", shut.stroke(LEFT, LEFT), 0);
        is("it turns, too", shut, 0, 3);
    }

    private static void reeds() {
        Says.terms("in REEDS (where it begins) it turns, but does not go.");
        CanoeSides x = at("r4 1.o..;p1 1 3 1;", 1, 0, 1);
        Due.due("it goes not", x.stroke(LEFT, LEFT), 10);
        is("it turns", x, 10, 2);
        Due.due("nor backwards", x.stroke(BACK, BACK), 10);
        CanoeSides through = at("r4 1.oo.;p1 1 20 1;", 0, 0, 2);
        Due.due("it goes into reeds, and through them", through.stroke(LEFT, RIGHT), 20);
        Due.due("but not from there", through.stroke(LEFT, RIGHT), 20);
        CanoeSides drivenOut = at("r4 1.o..;p1 1 20 1;w1 1;", 1, 0, 2);
        Due.due("WIND drives it out of them", drivenOut.stroke(LEFT, RIGHT), 20);
        CanoeSides drivenIn = at("r4 1eo..;p1 1 20 20;", 0, 0, 2);
        Due.due("a stream drives it into them", drivenIn.stroke(HOLD, HOLD), 10);
    }

    private static void stream() {
        Says.terms("Then the stream of its SQUARE drives it one SQUARE, if that is no bank, nor the end;");
        CanoeSides x = at("r5 1.ee..;p1 1 20 2;", 0, 0, 2);
        Due.due("of the SQUARE where it has come, one SQUARE alone", x.stroke(LEFT, RIGHT), 20);
        Due.due("of that SQUARE, when it holds", x.stroke(HOLD, HOLD), 30);
        Due.due("not of the SQUARE where it was", at("r5 1.w...;p1 1 20 2;", 1, 0, 2).stroke(LEFT, RIGHT), 20);
        Due.due("not of one that it goes through", at("r5 1.w...;p1 1 20 1;", 0, 0, 2).stroke(LEFT, RIGHT), 20);
        String[] ways = {"n", "e", "s", "w"};
        int[] driven = {10, 21, 12, 1};
        for (int way = 0; way < 4; way++) {
            Due.due("stream " + ways[way], at("r3 3...." + ways[way] + "....;", 1, 1, 5).stroke(HOLD, HOLD), driven[way]);
            Due.due("a bank there", at("r3 3####" + ways[way] + "####;", 1, 1, 5).stroke(HOLD, HOLD), 11);
            Due.due("the end there", at("r1 1" + ways[way] + ";", 0, 0, 5).stroke(HOLD, HOLD), 0);
        }
        CanoeSides heading = at("r3 3....s....;", 1, 1, 5);
        heading.stroke(HOLD, HOLD);
        is("its HEADING stays", heading, 12, 5);
    }

    private static void wind() {
        Says.terms("then WIND likewise, if its time is come.");
        CanoeSides x = at("r4 1....;p1 1 20 20;w1 2;", 0, 0, 0);
        Due.due("before its time", x.stroke(HOLD, HOLD), 0);
        Due.due("in its time", x.stroke(HOLD, HOLD), 10);
        Due.due("before its next time", x.stroke(HOLD, HOLD), 10);
        Due.due("in its next time", x.stroke(HOLD, HOLD), 20);
        int[] driven = {10, 21, 12, 1};
        for (int way = 0; way < 4; way++) {
            Due.due("wind to " + way, at("r3 3.........;w" + way + " 1;", 1, 1, 5).stroke(HOLD, HOLD), driven[way]);
            Due.due("a bank there", at("r3 3####.####;w" + way + " 1;", 1, 1, 5).stroke(HOLD, HOLD), 11);
            Due.due("the end there", at("r1 1.;w" + way + " 1;", 0, 0, 5).stroke(HOLD, HOLD), 0);
        }
        Due.due("behind the stream: s, then east", at("r2 2s#..;w1 1;", 0, 0, 0).stroke(HOLD, HOLD), 11);
        Due.due("no stream behind it", at("r3 1.e.;w1 1;", 0, 0, 0).stroke(HOLD, HOLD), 10);
        Due.due("by the stream to the wind's SQUARE and on", at("r3 1e..;w1 1;", 0, 0, 0).stroke(HOLD, HOLD), 20);
        Due.due("in reeds, too", at("r2 1o.;w1 1;", 0, 0, 0).stroke(LEFT, RIGHT), 10);
    }

    private static void counted() {
        Says.terms("STROKES are counted.");
        CanoeSides x = Due.on("r1 1.;");
        for (int i = 1; i <= 60; i++) {
            x.stroke(HOLD, HOLD);
            Due.due("told(9)", x.told(9), i);
        }
        x.drift(99);
        Due.due("by draws, too", x.told(9), 159);
    }

    // ---- promises 8 to 12

    private static CanoeSides lively() {
        CanoeSides x = Due.on("r4 2....#o..;p1 1 3 1;b1 0 2;g3 0 8;w1 4;hrlbhhhhh;");
        x.seed(11);
        x.stroke(LEFT, RIGHT);
        x.keep(0);
        x.drift(2);
        x.line(2, 0);
        x.write(1, 2, 0);
        return x;
    }

    private static void stroke() {
        Says.promise(8, "A STROKE of both (0 .. 3 each): where it is (a PAIR).");
        for (int pair = 0; pair < 16; pair++) {
            CanoeSides x = Due.on(OPEN + "p3 2 5 2;b3 3 1;w2 2;");
            int would = x.would(pair / 4, pair % 4, 0);
            int heading = x.would(pair / 4, pair % 4, 1);
            Due.due("stroke by " + pair, x.stroke(pair / 4, pair % 4), would);
            is("behind it", x, would, heading);
        }
        Says.promise(8, "OUTSIDE, NOT: no SQUARES.");
        for (int odd : ODD_STROKES) {
            Says.refused(OUTSIDE, "stroke(" + odd + ", 0)", StrokeEdges::lively, x -> x.stroke(odd, 0));
            Says.refused(OUTSIDE, "stroke(0, " + odd + ")", StrokeEdges::lively, x -> x.stroke(0, odd));
            Says.refused(OUTSIDE, "stroke(3, " + odd + ") without SQUARES", CanoeSides::new, x -> x.stroke(3, odd));
            Says.refused(OUTSIDE, "stroke(" + odd + ", 3) without SQUARES", CanoeSides::new, x -> x.stroke(odd, 3));
        }
        Says.refused(NOT, "stroke(0, 0)", CanoeSides::new, x -> x.stroke(0, 0));
        Says.refused(NOT, "stroke(3, 3)", CanoeSides::new, x -> x.stroke(3, 3));
    }

    private static void would() {
        Says.promise(9, "What a STROKE would do: what = 0 where it is then (a PAIR), 1 its HEADING, 2 eighths that it turns (to the left"
            + " below 0), 3 PUSH.");
        CanoeSides x = Due.on("r4 1..e.;p1 1 3 2;b1 0 0;w1 1;");
        Due.due("with the wind", x.would(LEFT, LEFT, 0), 20);
        Due.due("its HEADING", x.would(LEFT, LEFT, 1), 1);
        Due.due("to the right", x.would(LEFT, LEFT, 2), 1);
        Due.due("to the left, its HEADING", x.would(RIGHT, RIGHT, 1), 7);
        Due.due("to the left, below 0", x.would(RIGHT, RIGHT, 2), -1);
        Due.due("PUSH", x.would(RIGHT, RIGHT, 3), 1);
        Due.due("PUSH below 0", x.would(BACK, BACK, 3), -1);
        Due.due("with the stream and the wind", at("r5 1.e...;p1 1 3 2;w1 1;", 0, 0, 2).would(LEFT, RIGHT, 0), 30);
        Says.same("nothing is done", asked(), lively());
        Says.promise(9, "OUTSIDE, NOT: no SQUARES.");
        for (int odd : ODD_STROKES) {
            Says.refused(OUTSIDE, "would(" + odd + ", 0, 0)", StrokeEdges::lively, y -> y.would(odd, 0, 0));
            Says.refused(OUTSIDE, "would(0, " + odd + ", 0)", StrokeEdges::lively, y -> y.would(0, odd, 0));
            Says.refused(OUTSIDE, "would(0, 0, " + odd + ")", StrokeEdges::lively, y -> y.would(0, 0, odd));
            Says.refused(OUTSIDE, "would(3, 3, " + odd + ") without SQUARES", CanoeSides::new, y -> y.would(3, 3, odd));
            Due.due("would(3, " + odd + ", 0) without SQUARES", new CanoeSides().would(3, odd, 0), OUTSIDE);
            Due.due("would(" + odd + ", 3, 0) without SQUARES", new CanoeSides().would(odd, 3, 0), OUTSIDE);
        }
        for (int what = 0; what <= 3; what++) {
            Due.due("would(0, 0, " + what + ") without SQUARES", new CanoeSides().would(0, 0, what), NOT);
        }
    }

    private static CanoeSides asked() {
        CanoeSides x = lively();
        for (int i = 0; i < 64; i++) {
            x.would(i / 16, i / 4 % 4, i % 4);
        }
        return x;
    }

    private static void back() {
        Says.promise(10, "The n latest strokes (1 .. 50) are taken back: strokes counted.");
        CanoeSides x = at(OPEN + STRAIGHT + "w0 3;", 0, 5, 2);
        int[] places = new int[54];
        places[0] = 5;
        for (int i = 1; i <= 53; i++) {
            places[i] = i % 9 == 0 ? x.stroke(BACK, HOLD) : i % 4 == 0 ? x.stroke(BACK, BACK) : x.stroke(LEFT, HOLD);
        }
        Due.due("back(1)", x.back(1), 52);
        Due.due("where", x.told(7), places[52]);
        Due.due("back(2)", x.back(2), 50);
        Due.due("where", x.told(7), places[50]);
        Due.due("told(17)", x.told(17), 47);
        Due.due("back(47)", x.back(47), 3);
        Due.due("where", x.told(7), places[3]);
        CanoeSides fifty = lively();
        fifty.keep(1);
        int place = fifty.told(7);
        int heading = fifty.told(8);
        fifty.drift(50);
        Due.due("back(50)", fifty.back(50), 3);
        is("behind back(50)", fifty, place, heading);
        CanoeSides windy = at("r4 1....;p1 1 20 20;w1 2;", 0, 0, 0);
        windy.stroke(HOLD, HOLD);
        windy.stroke(HOLD, HOLD);
        windy.back(1);
        Due.due("the time to the WIND is taken back", windy.stroke(HOLD, HOLD), 10);
        Says.promise(10, "OUTSIDE, NOT: not so many.");
        for (int n : new int[] {0, 51, -1, Integer.MIN_VALUE, Integer.MAX_VALUE}) {
            Says.refused(OUTSIDE, "back(" + n + ")", StrokeEdges::lively, y -> y.back(n));
            Due.due("back(" + n + ") without SQUARES", new CanoeSides().back(n), OUTSIDE);
        }
        Says.refused(NOT, "back(3) of two", StrokeEdges::lively, y -> y.back(3));
        Says.refused(NOT, "back(50) of two", StrokeEdges::lively, y -> y.back(50));
        Due.due("back(2) of two", lively().back(2), 1);
        Due.due("back(1) without SQUARES", new CanoeSides().back(1), NOT);
        Due.due("back(1) without strokes", Due.on(OPEN).back(1), NOT);
    }

    private static void takenBack() {
        Says.terms("TAKEN BACK: the latest strokes since the text or IMAGE (50 at most are kept); THE SEED stays.");
        CanoeSides x = Due.on(OPEN + STRAIGHT);
        for (int i = 1; i <= 52; i++) {
            x.stroke(LEFT, HOLD);
            Due.due("told(17) behind " + i, x.told(17), Math.min(i, 50));
        }
        Due.due("back(50)", x.back(50), 2);
        Due.due("no 51st", x.back(1), NOT);
        x.stroke(LEFT, HOLD);
        Due.due("one more", x.told(17), 1);
        Due.due("back(2)", x.back(2), NOT);
        Due.due("back(1)", x.back(1), 2);
        CanoeSides since = Due.on(OPEN + STRAIGHT + "b3 3 0;");
        since.stroke(LEFT, HOLD);
        Due.feed(since, OPEN + STRAIGHT);
        since.river();
        Due.due("since the text", since.back(1), NOT);
        since.stroke(LEFT, HOLD);
        since.keep(0);
        Due.due("since an IMAGE was kept", since.back(1), NOT);
        since.stroke(LEFT, HOLD);
        since.goBack(0);
        Due.due("since an IMAGE was gone back to", since.back(1), NOT);
        since.stroke(LEFT, HOLD);
        Due.due("those since then", since.back(1), 1);
        CanoeSides seeded = lively();
        seeded.seed(99);
        seeded.drift(5);
        int seed = seeded.seed(3);
        seeded.seed(seed);
        seeded.back(5);
        Due.due("THE SEED stays", seeded.seed(0), seed);
    }

    private static void set() {
        Says.promise(11, "The boat is set on a SQUARE, HEADING d (0 .. 7): where it was (a PAIR).");
        CanoeSides x = Due.on(OPEN + STRAIGHT + "b7 5 3;w0 9;");
        int was = 75;
        for (int d = 0; d <= 7; d++) {
            Due.due("set(" + d + ", 5, " + d + ")", x.set(d, 5, d), was);
            was = 10 * d + 5;
            is("set", x, was, d);
        }
        Due.due("set(0, 0, 0)", x.set(0, 0, 0), 75);
        Due.due("where it was already", x.set(0, 0, 0), 0);
        Due.due("no stroke is counted", x.told(9) + x.told(17), 0);
        Due.due("on reeds and streams, too", at("r2 1oe;", 1, 0, 3).told(7), 10);
        CanoeSides counted = lively();
        int count = counted.told(9);
        counted.set(3, 1, 1);
        Due.due("strokes counted stay", counted.told(9), count);
        Due.due("so do those that can be taken back", counted.told(17), 2);
        Says.promise(11, "UNKNOWN, OUTSIDE, NOT: a bank.");
        int[][] none = {{4, 0}, {0, 2}, {-1, 0}, {0, -1}, {7, 0}, {Integer.MAX_VALUE, 0}, {0, Integer.MIN_VALUE}};
        for (int[] n : none) {
            Says.refused(UNKNOWN, "set(" + n[0] + ", " + n[1] + ", 0)", StrokeEdges::lively, y -> y.set(n[0], n[1], 0));
            Due.due("set(" + n[0] + ", " + n[1] + ", 8)", lively().set(n[0], n[1], 8), UNKNOWN);
        }
        Says.refused(UNKNOWN, "set(0, 0, 0) without SQUARES", CanoeSides::new, y -> y.set(0, 0, 0));
        Due.due("set(0, 0, 8) without SQUARES", new CanoeSides().set(0, 0, 8), UNKNOWN);
        for (int d : new int[] {-1, 8, Integer.MIN_VALUE, Integer.MAX_VALUE}) {
            Says.refused(OUTSIDE, "set(1, 1, " + d + ")", StrokeEdges::lively, y -> y.set(1, 1, d));
            Due.due("set(0, 1, " + d + "), a bank", lively().set(0, 1, d), OUTSIDE);
        }
        Says.refused(NOT, "set(0, 1, 0), a bank", StrokeEdges::lively, y -> y.set(0, 1, 0));
        Says.refused(NOT, "set(0, 1, 7), a bank", StrokeEdges::lively, y -> y.set(0, 1, 7));
    }

    private static void drift() {
        Says.promise(12, "n strokes BY DRAWS (1 .. 99): where it is (a PAIR).");
        for (int n : new int[] {1, 2, 49, 50, 51, 98, 99}) {
            CanoeSides x = Due.on(OPEN + "p3 2 5 2;b3 3 0;w1 7;");
            CanoeSides y = Due.on(OPEN + "p3 2 5 2;b3 3 0;w1 7;");
            int seed = 20261119;
            x.seed(seed);
            int where = NONE;
            for (int i = 0; i < n; i++) {
                seed = (int) ((seed * 1103515245L + 12345L) % 2147483648L);
                where = y.stroke(seed / 65536 % 16 / 4, seed / 65536 % 4);
            }
            Due.due("drift(" + n + ")", x.drift(n), where);
            is("behind it", x, where, y.told(8));
            Due.due("strokes counted", x.told(9), n);
            Due.due("to be taken back", x.told(17), Math.min(n, 50));
            Due.due("THE SEED", x.seed(0), seed);
        }
        Says.promise(12, "OUTSIDE, NOT: no SQUARES.");
        for (int n : new int[] {0, 100, -1, Integer.MIN_VALUE, Integer.MAX_VALUE}) {
            Says.refused(OUTSIDE, "drift(" + n + ")", StrokeEdges::lively, x -> x.drift(n));
            Says.refused(OUTSIDE, "drift(" + n + ") without SQUARES", CanoeSides::new, x -> x.drift(n));
        }
        Says.refused(NOT, "drift(1)", CanoeSides::new, x -> x.drift(1));
        Says.refused(NOT, "drift(99)", CanoeSides::new, x -> x.drift(99));
    }

    private static void byDraws() {
        Says.terms("BY DRAWS: THE SEED (0 at first: each DRAW it becomes it times 1103515245 and 12345, left over by 2 to the 31; the DRAW of"
            + " n is it / 65536, left over by n): n strokes, a DRAW of 16 each.");
        CanoeSides x = Due.on(OPEN + "p1 1 1 20;");
        x.drift(1);
        Due.due("the first DRAW of all is 0: three eighths", x.told(8), 3);
        Due.due("THE SEED behind it", x.seed(1), 12345);
        x.drift(1);
        Due.due("1103527590 / 65536 is 16838, left over 6 by 16: right, back", x.told(8), 2);
        Due.due("THE SEED behind it", x.seed(2147483647), 1103527590);
        x.drift(1);
        Due.due("1043980748 / 65536 is 15929, left over 9 by 16: back, right", x.told(8), 0);
        Due.due("THE SEED behind the greatest one", x.seed(0), 1043980748);
    }
}
