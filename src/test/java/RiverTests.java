/** Promises 1 to 7. */
public final class RiverTests {
    private static final int NONE = CanoeSides.NONE, UNKNOWN = CanoeSides.UNKNOWN, OUTSIDE = CanoeSides.OUTSIDE,
        NOT = CanoeSides.NOT, FULL = CanoeSides.FULL;

    public static void main(String[] args) {
        aNewObject();
        feeding();
        goodRivers();
        untoldThings();
        noNumber();
        rowFaults();
        numberFaults();
        clauseFaults();
        bankFaults();
        whatRiverLeaves();
        tellings();
        squares();
        habits();
        Due.end("RiverTests");
    }

    private static void aNewObject() {
        CanoeSides x = new CanoeSides();
        int[] told = {0, 0, 2, 2, 2, 2, 0, 0, 0, 0, NONE, NONE, NONE, 0, 0, 0, 0, 0};
        for (int what = 0; what < told.length; what++) {
            Due.due("new told " + what, x.told(what), told[what]);
        }
        Due.due("new fault", x.fault(), NONE);
        Due.due("new square", x.square(0, 0), UNKNOWN);
        Due.due("new habit", x.habit(1, 2), 2);
        Due.due("new stroke", x.stroke(0, 0), NOT);
        Due.due("new would", x.would(0, 0, 0), NOT);
        Due.due("new back", x.back(1), NOT);
        Due.due("new set", x.set(0, 0, 0), UNKNOWN);
        Due.due("new drift", x.drift(1), NOT);
        Due.due("new fewest", x.fewest(-1), NOT);
        Due.due("new calls", x.calls(0, 0), NOT);
        Due.due("new mute", x.mute(0, 0, 0), NOT);
        Due.due("new round", x.round(0, 0), NOT);
        Due.due("new still", x.still(0), NOT);
        Due.due("new surely", x.surely(0), NOT);
        Due.due("new alone", x.alone(), NOT);
        Due.due("new third", x.third(1), NOT);
        Due.due("new rules", x.rules(0), NOT);
        Due.due("new line", x.line(0, 0), UNKNOWN);
        Due.due("new fits", x.fits(-1), NOT);
        Due.due("new gave", x.gave(0), NOT);
        Due.due("new write", x.write(0, 0, 0), UNKNOWN);
        Due.due("new judge", x.judge(), NOT);
        Due.due("new tear", x.tear(), 0);
        Due.due("new goBack", x.goBack(0), NOT);
        Due.due("new seed", x.seed(4), 0);
        Due.due("new keep", x.keep(0), 1);
        Due.due("new goBack behind keep", x.goBack(0), 1);
        Due.due("new off", x.off(1, 1, 1), -2);
        Due.due("new best", x.best(1), 1);
    }

    private static void feeding() {
        CanoeSides x = new CanoeSides();
        Due.due("feed -1", x.feed(-1), OUTSIDE);
        Due.due("feed 256", x.feed(256), OUTSIDE);
        Due.due("feed 0", x.feed(0), 1);
        Due.due("feed 255", x.feed(255), 2);
        for (int i = 3; i <= 250; i++) {
            Due.due("feed the " + i + "th", x.feed(32), i);
        }
        Due.due("feed the 251st", x.feed(32), FULL);
        Due.due("feed 256 to a full text", x.feed(256), OUTSIDE);
        Due.due("told 6 full", x.told(6), 250);
        Due.due("river of it", x.river(), -11);
        Due.due("fault of it", x.fault(), 0);
        Due.due("feed behind river", x.feed(32), 1);
    }

    private static void goodRivers() {
        good("", 0);
        good("    ", 0);
        good("r1 1.;", 1);
        good("r8 6" + "........".repeat(6) + ";", 48);
        good(" r 2 1 . # ; ", 2);
        good("r002 001.#;", 2);
        good("r2 1.n;hlrbhlrbh;p9 9 20 20;g1 0 8;b1 0 7;w3 9;", 2);
        good("r2 1.n;h l r b h l r b h ;p 1 1 1 1 ;g 0 0 0 ;b 0 0 0 ;w 0 1 ;", 2);
        String most = "r1 1.;" + " ".repeat(244);
        good(most, 1);
    }

    private static void good(String text, int squares) {
        CanoeSides x = new CanoeSides();
        Due.feed(x, text);
        Due.due("river of '" + text + "'", x.river(), squares);
        Due.due("fault of '" + text + "'", x.fault(), NONE);
        Due.due("letters behind '" + text + "'", x.told(6), 0);
    }

    private static void untoldThings() {
        CanoeSides x = Due.on("r3 2##.oo.;");
        Due.due("untold boat", x.told(7), 20);
        Due.due("untold heading", x.told(8), 0);
        CanoeSides y = Due.on("r3 2###o..;");
        Due.due("untold boat in the second row", y.told(7), 1);
        CanoeSides z = Due.on("r2 2##\u0023.;g1 1 3;");
        Due.due("untold boat, last square", z.told(7), 11);
        Due.due("untold strengths", z.told(2) + z.told(3) + z.told(4) + z.told(5), 8);
        Due.due("untold wind", z.told(12), NONE);
    }

    private static void noNumber() {
        Due.fault("x", 1, 0);
        Due.fault("  b", 1, 2);
        Due.fault("\t", 1, 0);
        Due.fault(";", 1, 0);
        Due.fault("R1 1.;", 1, 0);
        Due.fault("r", 1, 1);
        Due.fault("r  ", 1, 3);
        Due.fault("r.", 1, 1);
        Due.fault("r1", 1, 2);
        Due.fault("r1 ", 1, 3);
        Due.fault("r-1 1.;", 1, 1);
        Due.fault("r1,1.;", 1, 2);
        Due.fault("r1 1.;x", 1, 6);
        Due.fault("r1 1.;;", 1, 6);
        Due.fault("r1 1.;1", 1, 6);
        Due.fault("r1 1.;p1 1 1;", 1, 12);
        Due.fault("r1 1.;p1 1 1 1", 1, 14);
        Due.fault("r1 1.;p1 1 1 1 1;", 1, 15);
        Due.fault("r1 1.;b0 0;", 1, 10);
        Due.fault("r1 1.;g0 0 8 w", 1, 13);
        Due.fault("r1 1.;w0 1 2;", 1, 11);
        Due.fault("r1 1.;" + (char) 255, 1, 6);
        Due.fault("r1 1.;" + (char) 0, 1, 6);
    }

    private static void rowFaults() {
        Due.fault("r2 1.;", 1, 5);
        Due.fault("r2 1.", 1, 5);
        Due.fault("r2 1.  ", 1, 7);
        Due.fault("r1 1..;", 1, 5);
        Due.fault("r1 1.", 1, 5);
        Due.fault("r1 1. p", 1, 6);
        Due.fault("r2 1.x;", 1, 5);
        Due.fault("r2 1.O;", 1, 5);
        Due.fault("r2 1#x;", 1, 5);
        Due.fault("r1 1.;hlrbh;", 1, 11);
        Due.fault("r1 1.;hlrbhlrb", 1, 14);
        Due.fault("r1 1.;hlrbhlrbhl;", 1, 15);
        Due.fault("r1 1.;hlrxhlrbh;", 1, 9);
        Due.fault("r1 1.;hLrbhlrbh;", 1, 7);
    }

    private static void numberFaults() {
        Due.fault("r0 1.;", 2, 1);
        Due.fault("r9 1.........;", 2, 1);
        Due.fault("r 9 1.........;", 2, 2);
        Due.fault("r1 0.;", 2, 3);
        Due.fault("r1 7.......;", 2, 3);
        Due.fault("r0001 1.;", 2, 1);
        Due.fault("r11.;", 2, 1);
        Due.fault("r99999999999999999999x", 2, 1);
        Due.fault("r4294967297 1.;", 2, 1);
        Due.fault("r1 0001x", 2, 3);
        Due.fault("r1 1.;p0 1 1 1;", 2, 7);
        Due.fault("r1 1.;p10 1 1 1;", 2, 7);
        Due.fault("r1 1.;p1 0 1 1;", 2, 9);
        Due.fault("r1 1.;p1 10 1 1;", 2, 9);
        Due.fault("r1 1.;p1 1 0 1;", 2, 11);
        Due.fault("r1 1.;p1 1 21 1;", 2, 11);
        Due.fault("r1 1.;p1 1 1 0;", 2, 13);
        Due.fault("r1 1.;p1 1 1 21;", 2, 13);
        Due.fault("r2 1..;b2 0 0;", 2, 8);
        Due.fault("r2 1..;b0 1 0;", 2, 10);
        Due.fault("r2 1..;b0 0 8;", 2, 12);
        Due.fault("r2 1..;g2 0 0;", 2, 8);
        Due.fault("r2 1..;g1 1 0;", 2, 10);
        Due.fault("r2 1..;g1 0 9;", 2, 12);
        Due.fault("r1 1.;w4 1;", 2, 7);
        Due.fault("r1 1.;w3 0;", 2, 9);
        Due.fault("r1 1.;w3 10;", 2, 9);
        Due.fault("r2 1..;b0 0000 0;", 2, 10);
    }

    private static void clauseFaults() {
        Due.fault("r1 1.;r1 1.;", 3, 6);
        Due.fault("r1 1.; r", 3, 7);
        Due.fault("r1 1.;p1 1 1 1;p", 3, 15);
        Due.fault("r1 1.;b0 0 0;b0 0 0;", 3, 13);
        Due.fault("r1 1.;g0 0 0;w1 1;g", 3, 18);
        Due.fault("r1 1.;w1 1;w", 3, 11);
        Due.fault("r1 1.;hlrbhlrbh; h", 3, 17);
    }

    private static void bankFaults() {
        Due.fault("r1 1#;", 4, 4);
        Due.fault("r2 1##;", 4, 5);
        Due.fault("r2 1# #;", 4, 6);
        Due.fault("r2 1##x", 4, 5);
        Due.fault("r2 1.#;b1 0 9;", 4, 10);
        Due.fault("r2 1.#;b1 0", 4, 10);
        Due.fault("r2 1.#;g1  000 0;", 4, 11);
        Due.fault("r2 2.##.;g1 0 0;", 4, 12);
        Due.fault("r2 2.##.;g0 1 0;", 4, 12);
    }

    private static void whatRiverLeaves() {
        CanoeSides x = Due.on("r3 1...;w1 2;");
        x.seed(77);
        x.stroke(0, 1);
        x.line(0, 0);
        x.write(0, 0, 0);
        x.keep(1);
        x.stroke(0, 1);
        Due.feed(x, "r1 1x");
        Due.due("a fault", x.river(), -11);
        Due.due("a fault leaves strokes", x.told(9), 2);
        Due.due("a fault leaves what can be taken back", x.told(17), 1);
        Due.due("a fault leaves the line", x.told(15), 1);
        Due.due("a fault leaves the book", x.told(16), 1);
        Due.due("a fault leaves images", x.goBack(1), 1);
        Due.feed(x, "r2 1..;b1 0 5;");
        Due.due("a new river", x.river(), 2);
        Due.due("no fault", x.fault(), NONE);
        int[] told = {2, 1, 2, 2, 2, 2, 0, 10, 5, 0, NONE, NONE, NONE, 0, 0, 0, 0, 0};
        for (int what = 0; what < told.length; what++) {
            Due.due("told behind a new river " + what, x.told(what), told[what]);
        }
        Due.due("images are gone", x.goBack(1), NOT);
        Due.due("the seed stays", x.seed(77), 77);
        x.stroke(3, 3);
        Due.due("an empty text", x.river(), 0);
        Due.due("no squares", x.square(0, 0), UNKNOWN);
        Due.due("no strokes to be taken back", x.back(1), NOT);
        Due.due("no heading", x.told(8), 0);
        Due.due("the seed stays behind an empty text", x.seed(0), 77);
    }

    private static void tellings() {
        CanoeSides x = Due.on("r4 3.... .##. ....;p3 4 5 6;b3 2 6;g2 0 8;w2 9;");
        int[] told = {4, 3, 3, 4, 5, 6, 0, 32, 6, 0, 20, 8, 2, 9, 0, 0, 0, 0};
        for (int what = 0; what < told.length; what++) {
            Due.due("told " + what, x.told(what), told[what]);
        }
        Due.due("told -1", x.told(-1), OUTSIDE);
        Due.due("told 18", x.told(18), OUTSIDE);
        x.set(2, 0, 5);
        Due.due("at the goal, any heading", x.told(14), 1);
        CanoeSides y = Due.on("r2 1..;g1 0 3;");
        y.set(1, 0, 2);
        Due.due("at the goal's square, another heading", y.told(14), 0);
        y.set(1, 0, 3);
        Due.due("at the goal", y.told(14), 1);
        Due.due("the goal's heading", y.told(11), 3);
    }

    private static void squares() {
        CanoeSides x = Due.on("r4 2.#on esw.;");
        int[] kinds = {0, 1, 2, 3, 4, 5, 6, 0};
        for (int i = 0; i < kinds.length; i++) {
            Due.due("square " + i, x.square(i % 4, i / 4), kinds[i]);
        }
        Due.due("square -1 0", x.square(-1, 0), UNKNOWN);
        Due.due("square 0 -1", x.square(0, -1), UNKNOWN);
        Due.due("square 4 0", x.square(4, 0), UNKNOWN);
        Due.due("square 0 2", x.square(0, 2), UNKNOWN);
        Due.due("square far off", x.square(Integer.MAX_VALUE, Integer.MIN_VALUE), UNKNOWN);
    }

    private static void habits() {
        CanoeSides x = Due.on("r1 1.;hhbrl rrll;");
        int[] habits = {3, 2, 1, 0, 1, 1, 0, 0};
        for (int i = 0; i < habits.length; i++) {
            Due.due("habit " + i, x.habit(i / 4, i % 4), habits[i]);
        }
        Due.due("habit -1 0", x.habit(-1, 0), OUTSIDE);
        Due.due("habit 2 0", x.habit(2, 0), OUTSIDE);
        Due.due("habit 0 -1", x.habit(0, -1), OUTSIDE);
        Due.due("habit 0 4", x.habit(0, 4), OUTSIDE);
        CanoeSides y = Due.on("r1 1.;");
        for (int i = 0; i < 8; i++) {
            Due.due("untold habit " + i, y.habit(i / 4, i % 4), i % 4);
        }
    }
}
