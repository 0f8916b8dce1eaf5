import java.util.Random;

/** Promises 13 to 23. */
public final class WayTests {
    private static final int NONE = CanoeSides.NONE, OUTSIDE = CanoeSides.OUTSIDE, NOT = CanoeSides.NOT;
    private static final String LONG = "r8 6w.ne.so.#ee.e#s.s.s#.wes#.o.e.#.e.eso#oeo..os...;p1 2 9 3;g0 0 8;w3 9;b7 5 1;";
    private static final String GUSTY = "r8 6..sswewsswno#w#o.#w.#..w###o##.#o.e#..se..s.soo.;p4 6 15 5;g7 5 1;w1 9;";

    public static void main(String[] args) {
        fewest();
        sixtyStrokes();
        calls();
        callsAtTheEdge();
        mute();
        round();
        off();
        best();
        still();
        surely();
        thirtyStrokes();
        aloneAndThird();
        rules();
        rulesAtTheEdge();
        refusals();
        nothingChanges();
        askedByTurns();
        askedOfTwoRivers();
        Due.end("WayTests");
    }

    private static CanoeSides at(String text, int x, int y, int d) {
        CanoeSides canoe = Due.on(text);
        canoe.set(x, y, d);
        return canoe;
    }

    private static void fewest() {
        // straight on, 2 at a stroke: of all pairs that push 2 and turn not the first is left, right
        CanoeSides x = Due.on("r5 1.....;p1 1 20 1;b0 0 2;g4 0 2;");
        int[] row = {2, 1, 1, NONE, NONE};
        int[] asked = {NONE, 0, 1, 2, -2};
        for (int i = 0; i < row.length; i++) {
            Due.due("fewest " + asked[i], x.fewest(asked[i]), i == 1 || i == 2 ? 0 : row[i]);
        }
        CanoeSides there = Due.on("r5 1.....;b0 0 2;g0 0 8;");
        Due.due("it is there", there.fewest(NONE), 0);
        Due.due("no pair then", there.fewest(0), NONE);
        CanoeSides turned = Due.on("r5 1.....;b0 0 2;g0 0 3;");
        Due.due("another heading is not there", turned.fewest(NONE), 1);
        Due.due("without a goal", Due.on("r5 1.....;").fewest(NONE), NONE);
        Due.due("without a goal, a pair", Due.on("r5 1.....;").fewest(0), NONE);
        Due.due("never", Due.on("r3 1.#.;g2 0 8;").fewest(NONE), NONE);
        // the goal is passed, not come to, by 2 squares at each stroke: on 2, on to the end, 2 backwards
        Due.due("it goes by", Due.on("r4 1....;p9 9 20 1;b0 0 2;g1 0 2;").fewest(NONE), 3);
        // the wind in its time alone brings it there
        CanoeSides wind = Due.on("r2 1.o;p1 1 20 20;g1 0 8;w1 4;");
        Due.due("by the wind", wind.fewest(NONE), 4);
        wind.stroke(3, 3);
        Due.due("by the wind, one stroke on", wind.fewest(NONE), 3);
        Due.due("the first pair", wind.fewest(0), 0);
        Due.due("no squares", new CanoeSides().fewest(NONE), NOT);
    }

    private static void sixtyStrokes() {
        CanoeSides x = Due.on(LONG);
        Due.due("144 are too many", x.fewest(NONE), NONE);
        Model model = new Model();
        for (int i = 0; i < LONG.length(); i++) {
            model.feed(LONG.charAt(i));
        }
        model.river();
        for (int i = 0; i < LONG_WAY.length; i++) {
            int pair = LONG_WAY[i];
            x.stroke(pair / 4, pair % 4);
            model.stroke(pair / 4, pair % 4);
            if (i >= 80) {
                Due.due("fewest behind " + i, x.fewest(NONE), model.fewest(NONE));
                Due.due("calls behind " + i, x.calls(0, 0), model.calls(0, 0));
                Due.due("calls' strokes behind " + i, x.calls(0, 1), model.calls(0, 1));
            }
        }
        Due.due("84 strokes on, 60 are left", x.told(9), 84);
        Due.due("sixty are not too many", x.fewest(NONE), 60);
        for (int i = 0; i < 60; i++) {
            int pair = x.fewest(0);
            Due.due("one less", x.fewest(NONE), 60 - i);
            x.stroke(pair / 4, pair % 4);
        }
        Due.due("there", x.told(14), 1);
        Due.due("fewest there", x.fewest(NONE), 0);
    }

    /** The first pairs of the shortest way of 144 strokes, found once with no bound of 60. */
    private static final int[] LONG_WAY = {0, 0, 0, 0, 0, 0, 0, 0, 0, 0, 0, 0, 0, 0, 0, 0, 0, 10, 2, 2,
        2, 2, 2, 2, 2, 2, 2, 0, 0, 0, 0, 0, 0, 0, 0, 0, 0, 0, 0, 0,
        0, 0, 0, 0, 0, 2, 2, 2, 2, 2, 2, 2, 2, 2, 0, 0, 2, 2, 2, 2,
        2, 2, 0, 0, 0, 0, 0, 0, 0, 0, 0, 0, 0, 0, 0, 0, 0, 0, 0, 0,
        0, 0, 0, 0};

    private static void calls() {
        CanoeSides x = Due.on("r5 1.....;p1 1 20 1;b0 0 2;g4 0 2;");
        Due.due("without a call", x.calls(1, 0), 0);
        Due.due("its strokes", x.calls(1, 1), 2);
        Due.due("one call, before the first stroke", x.calls(15, 0), 1);
        Due.due("its strokes", x.calls(15, 1), 2);
        CanoeSides there = Due.on("r5 1.....;b0 0 2;g0 0 8;");
        Due.due("there", there.calls(3, 0), 0);
        Due.due("there, strokes", there.calls(3, 1), 0);
        Due.due("without a goal", Due.on("r5 1.....;").calls(3, 0), NONE);
        Due.due("without a goal, strokes", Due.on("r5 1.....;").calls(3, 1), NONE);
        // fewer calls come before fewer strokes: held, the wind brings it; a call would be sooner
        CanoeSides slow = Due.on("r5 1.....;p1 1 20 1;b0 0 2;g4 0 2;w1 3;");
        Due.due("no call", slow.calls(15, 0), 0);
        Due.due("twelve strokes of the wind", slow.calls(15, 1), 12);
        Due.due("pair -1", x.calls(-1, 0), OUTSIDE);
        Due.due("pair 16", x.calls(16, 0), OUTSIDE);
        Due.due("what -1", x.calls(0, -1), OUTSIDE);
        Due.due("what 2", x.calls(0, 2), OUTSIDE);
    }

    private static void callsAtTheEdge() {
        judged("r8 6#..#..#...o..no.....oeo..##...o..#....o#.#...#o.;p6 3 3 3;g5 3 3;w3 5;", 3, 2, 3, 7, 60);
        judged("r8 6.###e##......#.se.#..#n#sw.o#s.#s.#.#n.o.w..###.;p6 8 12 2;g3 1 1;w2 7;", 0, 0, 5, 12, 0);
        judged("r8 6##....#...#s...##......#.#..nw.w..#w##w##..#..#n;p6 7 11 7;g3 4 6;w1 7;", 4, 3, 2, 12, 0);
        judged("r8 6...#wowon.o.w#oowwooo##....#o..o.e#s.#s.w.w.s##o;p9 3 5 11;g3 1 4;w2 9;", 3, 4, 0, 7, 60);
        judged("r8 6#wnw...ss##oo#.#.##...no..#.o.e.o....sw...#o..##;p9 5 6 11;g2 0 5;w1 5;", 0, 3, 3, 7, 0);
    }

    /** Calls whose strokes are 60, or would be 61 or 62 were it not for the bound (told as 0 here). */
    private static void judged(String text, int x, int y, int d, int pair, int strokes) {
        CanoeSides canoe = at(text, x, y, d);
        Model model = new Model();
        for (int i = 0; i < text.length(); i++) {
            model.feed(text.charAt(i));
        }
        model.river();
        model.set(x, y, d);
        Due.due("calls of " + text, canoe.calls(pair, 0), model.calls(pair, 0));
        Due.due("strokes of " + text, canoe.calls(pair, 1), strokes == 60 ? 60 : model.calls(pair, 1));
    }

    private static void mute() {
        CanoeSides x = Due.on("r8 6" + "........".repeat(6) + ";p1 1 20 2;b3 3 0;hrlhb hblr;");
        Due.due("no stroke", x.mute(6, 0, 2), 6);
        Due.due("where without a stroke", x.mute(6, 0, 0), 33);
        Due.due("heading without a stroke", x.mute(6, 0, 1), 0);
        // 6: right, back. In front behind 'b': 'h'; behind, behind 'r': 'b'
        Due.due("one stroke", x.mute(6, 1, 2), 14);
        Due.due("where behind it", x.mute(6, 1, 0), 33);
        // 14: holds, back: 'h' in front, 'r' behind
        Due.due("two strokes", x.mute(6, 2, 2), 13);
        CanoeSides plain = Due.on("r8 6" + "........".repeat(6) + ";p1 1 3 2;b3 3 0;");
        Due.due("each as the other did", plain.mute(1, 1, 2), 4);
        Due.due("and again", plain.mute(1, 2, 2), 1);
        Due.due("two squares", plain.mute(1, 2, 0), 31);
        Due.due("turning", plain.mute(0, 2, 1), 2);
        CanoeSides wind = Due.on("r2 1..;w1 2;");
        wind.stroke(3, 3);
        Due.due("the wind comes in its time", wind.mute(15, 1, 0), 10);
        Due.due("n 99", wind.mute(15, 99, 0), 10);
        Due.due("n 100", wind.mute(15, 100, 0), OUTSIDE);
        Due.due("n -1", wind.mute(15, -1, 0), OUTSIDE);
        Due.due("pair 16", wind.mute(16, 1, 0), OUTSIDE);
        Due.due("pair -1", wind.mute(-1, 1, 0), OUTSIDE);
        Due.due("what 3", wind.mute(0, 1, 3), OUTSIDE);
        Due.due("what -1", wind.mute(0, 1, -1), OUTSIDE);
    }

    private static void round() {
        CanoeSides x = Due.on("r1 1.;");
        Due.due("still at once", x.round(15, 0), 0);
        Due.due("at each stroke", x.round(15, 1), 1);
        Due.due("left and right by turns", x.round(1, 1), 2);
        CanoeSides wind = Due.on("r3 1...;w1 4;");
        Due.due("till the wind has driven it to the end", wind.round(15, 0), 8);
        Due.due("the wind's time comes round", wind.round(15, 1), 4);
        wind.stroke(3, 3);
        Due.due("from now", wind.round(15, 0), 7);
        CanoeSides turning = Due.on("r1 1.;p1 1 3 1;");
        Due.due("eight eighths", turning.round(0, 1), 8);
        Due.due("no lead", turning.round(0, 0), 0);
        CanoeSides habits = Due.on("r1 1.;hhhhhhhhh;");
        Due.due("a lead of one", habits.round(2, 0), 1);
        Due.due("pair -1", x.round(-1, 0), OUTSIDE);
        Due.due("pair 16", x.round(16, 0), OUTSIDE);
        Due.due("what 2", x.round(0, 2), OUTSIDE);
        Due.due("what -1", x.round(0, -1), OUTSIDE);
    }

    private static void off() {
        // one eighth a stroke, one square: NE, E, then back NE, N, ..
        CanoeSides x = Due.on("r1 1.;p1 1 3 2;");
        int[] east = {1, 2, 3, 3, 4, 5};
        int[] north = {1, 1, 2, 3, 4, 4};
        for (int n = 1; n <= 6; n++) {
            Due.due("off 2 " + n + " east", x.off(2, n, 0), east[n - 1]);
            Due.due("off 2 " + n + " north", x.off(2, n, 1), north[n - 1]);
        }
        Due.due("a round of eight", x.off(99, 8, 0), 0);
        Due.due("a round of eight, north", x.off(99, 8, 1), 0);
        Due.due("a round and one", x.off(99, 9, 0), 1);
        Due.due("no wind, no banks", Due.on("r1 1o;p1 1 20 1;w1 1;").off(1, 99, 1), 198);
        Due.due("to the west", x.off(7, 9, 0), -2);
        int[][] odd = {{0, 1, 0}, {100, 1, 0}, {1, 0, 0}, {1, 100, 0}, {1, 1, -1}, {1, 1, 2}};
        for (int[] o : odd) {
            Due.due("off " + o[0] + " " + o[1] + " " + o[2], x.off(o[0], o[1], o[2]), OUTSIDE);
        }
        Due.due("on an object without squares", new CanoeSides().off(1, 2, 1), 0);
    }

    private static void best() {
        CanoeSides x = Due.on("r1 1.;p1 1 3 2;");
        for (int n = 1; n <= 99; n++) {
            int found = 1;
            for (int k = 2; k <= 9; k++) {
                int e = Math.abs(x.off(k, n, 0));
                int was = Math.abs(x.off(found, n, 0));
                if (e < was || e == was && x.off(k, n, 1) > x.off(found, n, 1)) {
                    found = k;
                }
            }
            if (n % 9 == 0) {
                Due.due("best " + n, x.best(n), found);
                x = Due.on("r1 1.;p1 1 3 2;");
            }
        }
        Due.due("all alike: the least", Due.on("r1 1.;p1 1 20 1;").best(50), 1);
        Due.due("n 0", x.best(0), OUTSIDE);
        Due.due("n 100", x.best(100), OUTSIDE);
    }

    private static void still() {
        CanoeSides x = Due.on("r8 6" + "........".repeat(6) + ";b3 3 0;p3 2 5 3;");
        Due.due("one stroke", x.still(NONE), 1);
        Due.due("left, back: no turn, no push", x.still(0), 2);
        Due.due("no more", x.still(1), NONE);
        Due.due("before it", x.still(-2), NONE);
        CanoeSides stream = Due.on("r3 1e..;b1 0 2;p1 1 20 2;");
        stream.set(1, 0, 2);
        Due.due("backwards to a stream, and with it again", stream.still(NONE), 1);
        CanoeSides against = Due.on("r3 1.e.;b1 0 2;p1 1 20 2;");
        Due.due("a stream away, never back", against.still(NONE), NONE);
        CanoeSides never = Due.on("r3 1.ee;b0 0 0;p1 1 20 20;w1 1;");
        Due.due("never", never.still(NONE), NONE);
        Due.due("never, a pair", never.still(0), NONE);
        CanoeSides ends = Due.on("r1 1.;p9 9 1 1;w1 1;");
        Due.due("at the end the wind drives not", ends.still(NONE), 1);
        CanoeSides windy = Due.on("r3 1...;b0 0 2;p1 1 20 2;w1 2;");
        Due.due("before the wind", windy.still(0), 2);
        windy.stroke(3, 3);
        Due.due("with the wind, two strokes", windy.still(NONE), 2);
        Due.due("the wind drives it on", windy.still(0), 2);
        Due.due("both back", windy.still(1), 10);
    }

    private static void surely() {
        CanoeSides x = Due.on("r4 3.... .... ....;p1 1 20 2;b0 1 2;g3 1 8;w1 3;");
        Due.due("at the end no gust drives it on", x.surely(0), 3);
        Due.due("the first pair", x.surely(1), 0);
        CanoeSides open = Due.on("r5 1.....;p1 1 20 2;b0 0 2;g3 0 8;w1 3;");
        Due.due("a gust may drive it by, and away again", open.surely(0), NONE);
        Due.due("no pair", open.surely(1), NONE);
        Due.due("without wind", Due.on("r2 1..;g1 0 8;").surely(0), NONE);
        Due.due("without wind, a pair", Due.on("r2 1..;g1 0 8;").surely(1), NONE);
        Due.due("without wind, there", Due.on("r2 1..;g0 0 8;").surely(0), NONE);
        Due.due("without a goal", Due.on("r2 1..;w1 1;").surely(0), NONE);
        Due.due("there", Due.on("r2 1..;g0 0 8;w1 1;").surely(0), 0);
        Due.due("there, no pair", Due.on("r2 1..;g0 0 8;w1 1;").surely(1), NONE);
        Due.due("the wind's times are nothing", Due.on("r2 1.o;p1 1 20 20;g1 0 8;w1 1;").surely(0), NONE);
        Due.due("what -1", x.surely(-1), OUTSIDE);
        Due.due("what 2", x.surely(2), OUTSIDE);
    }

    private static void thirtyStrokes() {
        int[][] sure = {{3, 2, 2, 29, 0}, {1, 0, 4, 29, 5}, {0, 0, 2, 30, 12}, {3, 2, 1, 30, 0}, {2, 2, 3, 30, 5}};
        for (int[] s : sure) {
            CanoeSides x = at(GUSTY, s[0], s[1], s[2]);
            Due.due("surely at " + s[0] + s[1] + s[2], x.surely(0), s[3]);
            Due.due("its pair", x.surely(1), s[4]);
        }
        int[][] unsure = {{0, 0, 3}, {0, 0, 4}, {3, 2, 0}, {2, 0, 0}, {3, 0, 0}};
        for (int[] s : unsure) {
            CanoeSides x = at(GUSTY, s[0], s[1], s[2]);
            Due.due("31, 32 are too many", x.surely(0), NONE);
            Due.due("no pair", x.surely(1), NONE);
        }
    }

    private static void aloneAndThird() {
        // in front alone: 'l' and 'r' turn an eighth each, so it zigzags; both go straight
        String text = "r7 3....... ....... .......;p1 1 1 1;b0 1 2;g6 1 2;";
        Due.due("both", Due.on(text).fewest(NONE), 4);
        Due.due("alone", Due.on(text).alone(), 8);
        Due.due("alone, never", Due.on("r3 1...;p1 1 1 2;b0 0 2;g2 0 8;").alone(), NONE);
        Due.due("alone, there", Due.on("r3 1...;g0 0 8;").alone(), 0);
        Due.due("alone without a goal", Due.on("r3 1...;").alone(), NONE);
        String weak = "r5 1.....;p1 1 20 2;b0 0 2;g4 0 8;";
        Due.due("two", Due.on(weak).fewest(NONE), 4);
        Due.due("a third of 1", Due.on(weak).third(1), 4);
        Due.due("a third of 2", Due.on(weak).third(2), 2);
        Due.due("a third turns, too", Due.on("r1 1.;p1 1 9 9;g0 0 1;").third(6), 1);
        Due.due("not enough", Due.on("r1 1.;p1 1 9 9;g0 0 1;").third(5), NONE);
        Due.due("a third, there", Due.on("r3 1...;g0 0 8;").third(9), 0);
        Due.due("a third without a goal", Due.on("r3 1...;").third(9), NONE);
        CanoeSides x = Due.on(weak);
        Due.due("third 0", x.third(0), OUTSIDE);
        Due.due("third 10", x.third(10), OUTSIDE);
        Due.due("third 2", x.third(2), 2);
        Due.due("then two again", x.fewest(NONE), 4);
        Due.due("then alone", x.alone(), NONE);
        Due.due("then a third of 1", x.third(1), 4);
    }

    private static void rules() {
        // both left turn an eighth: behind the first one both right lead straight again
        CanoeSides x = Due.on("r1 1.;p1 1 3 1;g0 0 7;b0 0 0;");
        Due.due("right and right behind left and left", x.rules(0), 3);
        Due.due("the rule in front", x.rules(1), 1);
        Due.due("the rule behind", x.rules(2), 1);
        CanoeSides left = Due.on("r1 1.;p1 1 3 1;g0 0 2;b0 0 0;");
        Due.due("left and left", left.rules(0), 2);
        Due.due("of like ones the first", left.rules(1) * 4 + left.rules(2), 0);
        CanoeSides there = Due.on("r1 1.;g0 0 0;");
        Due.due("there", there.rules(0), 0);
        Due.due("there, the first rules", there.rules(1) + there.rules(2), 0);
        CanoeSides never = Due.on("r1 1.;p1 1 20 1;g0 0 1;");
        for (int what = 0; what < 3; what++) {
            Due.due("never " + what, never.rules(what), NONE);
            Due.due("without a goal " + what, Due.on("r1 1.;").rules(what), NONE);
        }
        Due.due("what -1", x.rules(-1), OUTSIDE);
        Due.due("what 3", x.rules(3), OUTSIDE);
    }

    private static void rulesAtTheEdge() {
        String sixty = "r8 6.#eo..os...o.onw.oo.oeo#e..wn.ow..w..#.o#seoe.sw;p8 8 19 2;g0 2 0;w3 6;";
        Due.due("sixty strokes", at(sixty, 7, 4, 4).rules(0), 60);
        String more = "r8 6.#..o.w#wn.##.oo.#w###onwo#.o...no.os.ns#.o#..ne;p6 9 7 13;g2 5 5;w3 9;";
        Due.due("61 are too many", at(more, 6, 1, 0).rules(0), NONE);
    }

    private static void refusals() {
        CanoeSides none = new CanoeSides();
        Due.due("calls", none.calls(0, 2), OUTSIDE);
        Due.due("mute", none.mute(0, 100, 0), OUTSIDE);
        Due.due("round", none.round(16, 0), OUTSIDE);
        Due.due("surely", none.surely(2), OUTSIDE);
        Due.due("third", none.third(0), OUTSIDE);
        Due.due("rules", none.rules(3), OUTSIDE);
        Due.due("still", none.still(99), NOT);
        Due.due("alone", none.alone(), NOT);
    }

    private static void nothingChanges() {
        CanoeSides x = Due.on("r5 3..... .#.#. .....;b0 0 2;g4 2 4;w2 2;");
        x.stroke(0, 1);
        int[] before = new int[18];
        for (int what = 0; what < 18; what++) {
            before[what] = x.told(what);
        }
        x.would(0, 0, 0);
        x.fewest(NONE);
        x.calls(3, 0);
        x.mute(3, 50, 0);
        x.round(3, 0);
        x.off(3, 50, 0);
        x.best(50);
        x.still(NONE);
        x.surely(0);
        x.alone();
        x.third(4);
        x.rules(0);
        x.fits(NONE);
        x.gave(0);
        x.judge();
        for (int what = 0; what < 18; what++) {
            Due.due("told stays " + what, x.told(what), before[what]);
        }
    }

    private static final String WINDY = "r6 4...... .##.o. .e.n.. ....s.;p1 1 3 1;g5 0 3;w1 4;";

    /** 0 to 10: FEWEST, a THIRD, ALONE; then CALLS of sixteen pairs; then SURELY. */
    private static int ask(CanoeSides x, int which) {
        return which == 0 ? x.fewest(NONE) : which < 10 ? x.third(which) : which == 10 ? x.alone()
            : which < 27 ? x.calls(which - 11, 1) : x.surely(0);
    }

    /** What one look leaves must not answer another one: each answer is that of a new object. */
    private static void askedByTurns() {
        int[][] fresh = new int[8][28];
        for (int d = 0; d < 8; d++) {
            for (int which = 0; which < 28; which++) {
                fresh[d][which] = ask(at(WINDY, 2, 3, d), which);
            }
        }
        Random random = new Random(11);
        for (int run = 0; run < 40; run++) {
            CanoeSides x = Due.on(WINDY);
            for (int i = 0; i < 220; i++) {
                int d = random.nextInt(8);
                int which = run % 3 == 0 ? random.nextInt(11) : run % 3 == 1 ? 11 + random.nextInt(16) : random.nextInt(28);
                x.set(2, 3, d);
                Due.due("asked by turns " + d + " " + which, ask(x, which), fresh[d][which]);
            }
        }
    }

    private static void askedOfTwoRivers() {
        String[] texts = {"r5 1.....;p1 1 20 1;b0 0 2;g4 0 8;w0 3;", "r5 1.....;p1 1 20 2;b0 0 2;g4 0 8;w0 3;"};
        for (int which = 0; which < 28; which++) {
            CanoeSides x = Due.on(texts[0]);
            ask(x, which);
            Due.feed(x, texts[1]);
            x.river();
            Due.due("of two rivers " + which, ask(x, which), ask(Due.on(texts[1]), which));
        }
        Due.due("they differ", ask(Due.on(texts[0]), 0) - ask(Due.on(texts[1]), 0), -2);
    }
}
