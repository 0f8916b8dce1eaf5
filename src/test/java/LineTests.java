import java.util.Random;

/** Promises 24 to 29. */
public final class LineTests {
    private static final int NONE = CanoeSides.NONE, UNKNOWN = CanoeSides.UNKNOWN, OUTSIDE = CanoeSides.OUTSIDE,
        NOT = CanoeSides.NOT, FULL = CanoeSides.FULL;
    private static final String OPEN = "r8 6" + "........".repeat(6) + ";";

    public static void main(String[] args) {
        line();
        fits();
        gaveUp();
        book();
        tear();
        refusals();
        walks();
        Due.end("LineTests");
    }

    private static void line() {
        CanoeSides x = Due.on("r2 2.#..;");
        Due.due("a mark", x.line(0, 0), 1);
        Due.due("a mark on a bank", x.line(1, 0), 2);
        Due.due("no square", x.line(2, 0), UNKNOWN);
        Due.due("no square below", x.line(0, -1), UNKNOWN);
        Due.due("the third", x.line(1, 1), 3);
        Due.due("the fourth", x.line(1, 1), 4);
        Due.due("no fifth", x.line(1, 1), FULL);
        Due.due("no square, full", x.line(0, 2), UNKNOWN);
        Due.due("four", x.told(15), 4);
    }

    private static void fits() {
        // push 1 by two who paddle, 0 by one or none, -1 by two back; no turn
        CanoeSides x = Due.on("r4 1....;p1 1 20 2;b1 0 2;");
        Due.due("no line", x.fits(NONE), 1);
        Due.due("no pair", x.fits(0), NONE);
        x.line(2, 0);
        Due.due("left or right, both", x.fits(NONE), 4);
        Due.due("the first", x.fits(0), 0);
        x.line(1, 0);
        Due.due("and both back", x.fits(NONE), 4);
        Due.due("the second pair", x.fits(1), 10);
        x.line(1, 0);
        Due.due("and none on", x.fits(NONE), 4 * 11);
        Due.due("the third pair", x.fits(2), 2);
        Due.due("no fourth", x.fits(3), NONE);
        Due.due("before the first", x.fits(-2), NONE);
        x.line(3, 0);
        Due.due("none fits", x.fits(NONE), 0);
        Due.due("no row", x.fits(0), NONE);
        CanoeSides all = Due.on("r1 1.;");
        for (int i = 0; i < 4; i++) {
            all.line(0, 0);
        }
        Due.due("all that can be", all.fits(NONE), 65536);
        Due.due("the first of all", all.fits(3), 0);
        CanoeSides wind = Due.on("r4 1....;p1 1 20 2;b1 0 2;w1 2;");
        wind.line(2, 0);
        Due.due("no wind yet", wind.fits(NONE), 4);
        wind.stroke(3, 3);
        Due.due("the wind drives it, from now", wind.fits(NONE), 11);
        Due.due("its first", wind.fits(0), 2);
        CanoeSides bank = Due.on("r2 1.#;");
        bank.line(1, 0);
        Due.due("never on a bank", bank.fits(NONE), 0);
        // the first row is not of the first pairs alone: its turn must fit later
        CanoeSides turn = Due.on(OPEN + "p1 1 3 2;b3 3 0;");
        turn.line(3, 2);
        turn.line(4, 1);
        Due.due("straight, then an eighth to the right", turn.fits(NONE), 2);
        Due.due("straight", turn.fits(0), 1);
        Due.due("an eighth", turn.fits(1), 0);
    }

    private static void gaveUp() {
        CanoeSides x = Due.on("r4 1....;p3 3 20 3;b1 0 2;");
        Due.due("no line", x.gave(0), 0);
        x.line(2, 0);
        Due.due("none held in all", x.gave(0) + x.gave(1), 0);
        CanoeSides half = Due.on("r8 1........;p4 2 20 3;b1 0 2;");
        // pushes: both 2, front alone 1, behind alone 0, front on and back behind 0, back front and on behind 0,
        // back and hold -1, back both -2
        half.line(2, 0);
        Due.due("one square: the one behind held", half.fits(NONE), 2);
        Due.due("behind", half.gave(1), 1);
        Due.due("in front", half.gave(0), 0);
        half.line(4, 0);
        Due.due("then both", half.fits(NONE), 8);
        Due.due("at the first stroke alone", half.gave(1), 1);
        half.line(3, 0);
        Due.due("then back and hold", half.fits(NONE), 8);
        Due.due("at the first and third", half.gave(1), 5);
        Due.due("in front never", half.gave(0), 0);
        half.line(7, 0);
        Due.due("none fits", half.fits(NONE), 0);
        Due.due("none fits, none held", half.gave(1), 0);
        CanoeSides front = Due.on("r8 1........;p2 4 20 3;b1 0 2;");
        front.line(1, 0);
        front.line(2, 0);
        Due.due("the one in front held at the second", front.gave(0), 2);
        Due.due("the one behind", front.gave(1), 0);
        CanoeSides both = Due.on("r8 1........;p9 9 20 1;b3 0 2;w1 2;");
        both.stroke(3, 3);
        both.line(4, 0);
        Due.due("no push, or a push slantwise at the end", both.fits(NONE), 7);
        Due.due("not in all", both.gave(0) + both.gave(1), 0);
    }

    private static void book() {
        CanoeSides x = Due.on("r4 1....;p1 1 20 2;b1 0 2;");
        Due.due("no book", x.judge(), NONE);
        Due.due("a line", x.write(0, 2, 0), 1);
        Due.due("as told", x.judge(), NONE);
        Due.due("a second", x.write(10, 1, 0), 2);
        Due.due("as told, too", x.judge(), NONE);
        Due.due("a third", x.write(15, 2, 0), 3);
        Due.due("the third is wrong", x.judge(), 2);
        Due.due("a fourth", x.write(0, 0, 0), 4);
        Due.due("the first wrong one", x.judge(), 2);
        x.stroke(0, 0);
        Due.due("from now", x.judge(), 0);
        for (int i = 5; i <= 20; i++) {
            Due.due("line " + i, x.write(15, 0, 0), i);
        }
        Due.due("no 21st", x.write(15, 0, 0), FULL);
        Due.due("twenty lines", x.told(16), 20);
        Due.due("full, a pair of 16", x.write(16, 0, 0), OUTSIDE);
        Due.due("full, no square", x.write(16, 4, 0), UNKNOWN);
        CanoeSides wind = Due.on("r4 1....;b1 0 2;w1 2;");
        wind.write(15, 1, 0);
        wind.write(15, 2, 0);
        wind.write(15, 2, 0);
        Due.due("the wind in its time", wind.judge(), NONE);
        CanoeSides last = Due.on("r4 1....;b1 0 2;w1 9;");
        for (int i = 1; i <= 20; i++) {
            last.write(15, i >= 18 ? 3 : i >= 9 ? 2 : 1, 0);
        }
        Due.due("all twenty as told", last.judge(), NONE);
        CanoeSides wrong = Due.on("r4 1....;b1 0 2;");
        for (int i = 1; i <= 20; i++) {
            wrong.write(15, i == 20 ? 2 : 1, 0);
        }
        Due.due("the twentieth is wrong", wrong.judge(), 19);
    }

    private static void tear() {
        CanoeSides x = Due.on("r4 1....;");
        Due.due("nothing", x.tear(), 0);
        x.line(0, 0);
        x.line(0, 0);
        x.write(3, 1, 0);
        Due.due("three", x.tear(), 3);
        Due.due("empty", x.told(15) + x.told(16), 0);
        Due.due("again", x.tear(), 0);
        Due.due("a mark again", x.line(3, 0), 1);
        Due.due("a line again", x.write(3, 3, 0), 1);
        x.keep(0);
        x.stroke(0, 0);
        x.goBack(0);
        Due.due("an image leaves both", x.told(15) + x.told(16), 2);
    }

    private static void refusals() {
        CanoeSides x = Due.on("r1 1.;");
        Due.due("gave -1", x.gave(-1), OUTSIDE);
        Due.due("gave 2", x.gave(2), OUTSIDE);
        Due.due("write -1", x.write(-1, 0, 0), OUTSIDE);
        Due.due("write 16", x.write(16, 0, 0), OUTSIDE);
        Due.due("write to no square", x.write(-1, 1, 0), UNKNOWN);
        Due.due("nothing was written", x.told(16), 0);
        CanoeSides none = new CanoeSides();
        Due.due("gave 2 of none", none.gave(2), OUTSIDE);
        Due.due("gave of none", none.gave(1), NOT);
        Due.due("fits of none", none.fits(3), NOT);
        Due.due("judge of none", none.judge(), NOT);
        Due.due("write of none", none.write(99, 0, 0), UNKNOWN);
    }

    /** A second canoe paddles by draws, its squares become the line; the Model counts all rows of strokes. */
    private static void walks() {
        Random random = new Random(7);
        String held = "";
        for (int run = 0; run < 400; run++) {
            StringBuilder text = new StringBuilder("r6 5");
            for (int i = 0; i < 30; i++) {
                text.append("........#onesw".charAt(random.nextInt(14)));
            }
            text.append(";p" + (1 + random.nextInt(9)) + " " + (1 + random.nextInt(9)) + " " + (1 + random.nextInt(9)) + " "
                + (1 + random.nextInt(4)) + ";w" + random.nextInt(4) + " " + (1 + random.nextInt(4)) + ";");
            CanoeSides canoe = Due.on(text.toString());
            CanoeSides walker = Due.on(text.toString());
            Model model = new Model();
            text.chars().forEach(model::feed);
            model.river();
            int x = random.nextInt(6);
            int y = random.nextInt(5);
            int d = random.nextInt(8);
            canoe.set(x, y, d);
            walker.set(x, y, d);
            model.set(x, y, d);
            for (int k = 1 + random.nextInt(4); k > 0; k--) {
                int place = walker.stroke(random.nextInt(4), random.nextInt(4));
                canoe.line(place / 10, place % 10);
                model.line(place / 10, place % 10);
            }
            String of = " of " + text + " " + x + y + d;
            for (int i = -1; i < 4; i++) {
                Due.due("fits " + i + of, canoe.fits(i), model.fits(i));
            }
            Due.due("gave 0" + of, canoe.gave(0), model.gave(0));
            Due.due("gave 1" + of, canoe.gave(1), model.gave(1));
            held += canoe.gave(0) != 0 || canoe.gave(1) != 0 ? "h" : "";
        }
        Due.due("some gave up", held.length() > 40 ? 1 : 0, 1);
    }
}
