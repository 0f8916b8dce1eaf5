/** Promises 8 to 12. */
public final class StrokeTests {
    private static final int NONE = CanoeSides.NONE, UNKNOWN = CanoeSides.UNKNOWN, OUTSIDE = CanoeSides.OUTSIDE,
        NOT = CanoeSides.NOT;
    /** Open water, so strong that T and P of 1 tell each strength. */
    private static final String OPEN = "r8 6" + "........".repeat(6) + ";";

    public static void main(String[] args) {
        headings();
        banksAndEnds();
        reeds();
        streams();
        wind();
        turnsAndPushes();
        refusals();
        takenBack();
        set();
        drift();
        Due.end("StrokeTests");
    }

    private static void headings() {
        int[] ahead = {32, 42, 43, 44, 34, 24, 23, 22};
        for (int d = 0; d < 8; d++) {
            CanoeSides x = Due.on(OPEN + "p1 1 20 2;b3 3 " + d + ";");
            Due.due("one square to " + d, x.stroke(0, 1), ahead[d]);
            Due.due("heading " + d, x.told(8), d);
            Due.due("one square backwards from " + d, x.stroke(2, 2), 33);
            Due.due("strokes counted", x.told(9), 2);
        }
    }

    private static void banksAndEnds() {
        CanoeSides x = Due.on("r4 1..#.;p1 1 20 1;b0 0 2;");
        Due.due("it stays ahead of a bank", x.stroke(0, 1), 10);
        Due.due("it stays ahead of a bank again", x.stroke(0, 1), 10);
        Due.due("it stays ahead of the end", x.stroke(2, 2), 0);
        CanoeSides y = Due.on("r3 3.#. #.. ...;p1 1 20 1;b0 0 3;");
        Due.due("between two banks, slantwise", y.stroke(0, 1), 22);
        Due.due("slantwise at the end", y.stroke(0, 1), 22);
        CanoeSides z = Due.on(OPEN + "p9 9 1 1;b7 5 7;");
        Due.due("a push is 2 at most", z.would(3, 0, 0), 75);
        Due.due("a turn of 18 eighths", z.would(3, 0, 1), 1);
        Due.due("the push of 9 and 9", z.would(0, 1, 3), 2);
        Due.due("the push of -9 and -9", z.would(2, 2, 3), -2);
    }

    private static void reeds() {
        CanoeSides x = Due.on("r4 1.o..;p1 1 3 1;b1 0 2;");
        Due.due("in reeds it goes not", x.stroke(0, 1), 10);
        Due.due("in reeds it turns", x.stroke(0, 0), 10);
        Due.due("its heading then", x.told(8), 3);
        Due.due("through reeds it goes", x.set(0, 0, 2), 10);
        Due.due("through reeds it goes two", x.stroke(0, 1), 20);
        CanoeSides y = Due.on("r4 1.o..;p1 1 3 1;b1 0 2;w1 1;");
        Due.due("in reeds the wind drives it", y.stroke(3, 3), 20);
        Due.due("what it would push in reeds", Due.on("r1 1o;").would(0, 1, 3), 2);
    }

    private static void streams() {
        CanoeSides x = Due.on("r4 3.... .nes .wws;p1 1 20 2;b0 1 2;");
        Due.due("a stream north", x.stroke(0, 1), 10);
        x.set(1, 1, 2);
        Due.due("a stream east, not the next stream too", x.stroke(0, 1), 31);
        Due.due("a stream south", x.stroke(3, 3), 32);
        Due.due("a stream south at the end", x.stroke(3, 3), 32);
        x.set(2, 2, 0);
        Due.due("a stream west", x.stroke(3, 3), 12);
        CanoeSides y = Due.on("r3 1.e#;b1 0 0;");
        Due.due("a stream to a bank", y.stroke(3, 3), 10);
    }

    private static void wind() {
        int[] driven = {32, 43, 34, 23};
        for (int way = 0; way < 4; way++) {
            CanoeSides x = Due.on(OPEN + "b3 3 0;w" + way + " 3;");
            Due.due("before the wind", x.stroke(3, 3), 33);
            Due.due("before the wind too", x.stroke(3, 3), 33);
            Due.due("it would drive it", x.would(3, 3, 0), driven[way]);
            Due.due("wind to " + way, x.stroke(3, 3), driven[way]);
            Due.due("behind the wind", x.stroke(3, 3), driven[way]);
        }
        CanoeSides x = Due.on("r3 1.e.;b0 0 2;p1 1 20 2;w3 1;");
        Due.due("first the stream, then the wind", x.stroke(0, 1), 10);
        CanoeSides y = Due.on("r3 1.#.;b2 0 2;w3 1;");
        Due.due("wind to a bank", y.stroke(3, 3), 20);
        CanoeSides z = Due.on("r2 1..;b1 0 2;w1 1;");
        Due.due("wind to the end", z.stroke(3, 3), 10);
    }

    private static void turnsAndPushes() {
        CanoeSides x = Due.on(OPEN + "p3 2 2 3;b3 3 0;");
        int[] turns = {3, 0, 1, 1, 0, -3, -1, -1, 2, -2, 0, 0, 2, -2, 0, 0};
        int[] pushes = {1, 1, 0, 1, 1, 1, 0, 1, 0, 0, -1, -1, 0, 0, 0, 0};
        for (int pair = 0; pair < 16; pair++) {
            int d = ((turns[pair] % 8) + 8) % 8;
            Due.due("turn " + pair, x.would(pair / 4, pair % 4, 2), turns[pair]);
            Due.due("push " + pair, x.would(pair / 4, pair % 4, 3), pushes[pair]);
            Due.due("heading " + pair, x.would(pair / 4, pair % 4, 1), d);
        }
        Due.due("nothing changes by it", x.told(7) + x.told(8) + x.told(9), 33);
        Due.due("a turn of 27 eighths", Due.on("r1 1.;p9 9 1 1;").would(0, 0, 2), 27);
        Due.due("its heading", Due.on("r1 1.;p9 9 1 1;").would(0, 0, 1), 3);
        Due.due("its heading to the left", Due.on("r1 1.;p9 9 1 1;").would(1, 1, 1), 5);
    }

    private static void refusals() {
        CanoeSides x = Due.on("r1 1.;");
        CanoeSides none = new CanoeSides();
        int[] odd = {-1, 4, Integer.MIN_VALUE, Integer.MAX_VALUE};
        for (int a : odd) {
            Due.due("stroke a " + a, x.stroke(a, 0), OUTSIDE);
            Due.due("stroke b " + a, x.stroke(0, a), OUTSIDE);
            Due.due("would a " + a, x.would(a, 0, 0), OUTSIDE);
            Due.due("would b " + a, x.would(0, a, 0), OUTSIDE);
            Due.due("would what " + a, x.would(0, 0, a), OUTSIDE);
            Due.due("stroke without squares " + a, none.stroke(a, 0), OUTSIDE);
            Due.due("would without squares " + a, none.would(a, 0, 0), OUTSIDE);
        }
        Due.due("no stroke was counted", x.told(9), 0);
        Due.due("drift 0", none.drift(0), OUTSIDE);
        Due.due("back 51 of none", none.back(51), OUTSIDE);
        Due.due("back 0 of none", none.back(0), OUTSIDE);
        Due.due("set where no square is", none.set(0, 0, 9), UNKNOWN);
    }

    private static void takenBack() {
        CanoeSides x = Due.on(OPEN + "p1 1 20 2;b3 5 0;w1 4;");
        x.stroke(0, 1);
        x.stroke(0, 1);
        x.stroke(0, 1);
        Due.due("three can be taken back", x.told(17), 3);
        Due.due("back 4", x.back(4), NOT);
        Due.due("back 2", x.back(2), 1);
        Due.due("where it was", x.told(7), 34);
        Due.due("one more can", x.told(17), 1);
        Due.due("back 1", x.back(1), 0);
        Due.due("where it began", x.told(7), 35);
        Due.due("no more", x.back(1), NOT);
        x.stroke(0, 1);
        x.set(7, 5, 6);
        x.stroke(0, 1);
        Due.due("back over a set", x.back(2), 0);
        Due.due("before all", x.told(7) + x.told(8), 35);
        for (int i = 0; i < 51; i++) {
            x.stroke(i % 2 == 0 ? 0 : 2, i % 2 == 0 ? 1 : 2);
        }
        Due.due("fifty are kept", x.told(17), 50);
        Due.due("back 50", x.back(50), 1);
        Due.due("the first one is not", x.back(1), NOT);
        Due.due("where it was behind the first", x.told(7), 34);
        Due.due("back 51", x.back(51), OUTSIDE);
    }

    private static void set() {
        CanoeSides x = Due.on("r3 2.#. ...;b0 1 4;w2 2;");
        x.stroke(3, 3);
        Due.due("set", x.set(2, 0, 7), 1);
        Due.due("where", x.told(7), 20);
        Due.due("heading", x.told(8), 7);
        Due.due("strokes counted stay, and what can be taken back", x.told(9) + x.told(17), 2);
        Due.due("a bank", x.set(1, 0, 0), NOT);
        Due.due("a bank, no heading", x.set(1, 0, 8), OUTSIDE);
        Due.due("no heading", x.set(0, 0, -1), OUTSIDE);
        Due.due("no square, no heading", x.set(3, 0, -1), UNKNOWN);
        Due.due("no square", x.set(0, 2, 1), UNKNOWN);
        Due.due("nothing changed", x.told(7) * 10 + x.told(8), 207);
        Due.due("the wind's time stays", x.stroke(3, 3), 21);
    }

    private static void drift() {
        CanoeSides x = Due.on(OPEN + "b3 3 0;p2 3 4 3;");
        CanoeSides y = Due.on(OPEN + "b3 3 0;p2 3 4 3;");
        long seed = 123456789;
        x.seed((int) seed);
        int where = NONE;
        for (int i = 0; i < 99; i++) {
            seed = (seed * 1103515245L + 12345L) % 2147483648L;
            int pair = (int) (seed / 65536 % 16);
            where = y.stroke(pair / 4, pair % 4);
        }
        Due.due("drift 99", x.drift(99), where);
        Due.due("its heading", x.told(8), y.told(8));
        Due.due("its strokes", x.told(9), 99);
        Due.due("drift 0", x.drift(0), OUTSIDE);
        Due.due("drift 100", x.drift(100), OUTSIDE);
        Due.due("the seed then", x.seed(0), seed);
        Due.due("taken back, the seed stays", x.back(3), 96);
        Due.due("the seed", x.seed(5), 0);
        new CanoeSides().drift(5);
        CanoeSides none = new CanoeSides();
        none.drift(5);
        Due.due("a refused drift draws not", none.seed(1), 0);
    }
}
