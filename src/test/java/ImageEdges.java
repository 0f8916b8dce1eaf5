/** The edges of THE SEED and the IMAGES, and of promises 30 to 32, sentence by sentence. */
final class ImageEdges {
    private static final int UNKNOWN = CanoeSides.UNKNOWN, OUTSIDE = CanoeSides.OUTSIDE, NOT = CanoeSides.NOT;
    private static final String OPEN = "r8 6" + "........".repeat(6) + ";p1 1 3 1;b3 3 1;w1 5;";
    private static final int[] NO_IMAGE = {-1, 2, 32, Integer.MIN_VALUE, Integer.MAX_VALUE};

    private ImageEdges() {
    }

    static void all() {
        seed();
        images();
        keep();
        goBack();
    }

    private static CanoeSides lively() {
        CanoeSides x = Due.on(OPEN);
        x.seed(5);
        x.drift(3);
        x.keep(0);
        x.drift(2);
        x.line(1, 1);
        x.write(3, 1, 1);
        return x;
    }

    private static void seed() {
        Says.promise(30, "THE SEED becomes v (0 .. 2147483647): what it was.");
        CanoeSides x = new CanoeSides();
        Due.due("0 at first", x.seed(2147483647), 0);
        Due.due("the greatest", x.seed(0), 2147483647);
        Due.due("the least", x.seed(1), 0);
        Due.due("1", x.seed(1), 1);
        Says.promise(30, "OUTSIDE.");
        for (int v : new int[] {-1, -2, Integer.MIN_VALUE}) {
            Says.refused(OUTSIDE, "seed(" + v + ")", ImageEdges::lively, y -> y.seed(v));
            Says.refused(OUTSIDE, "seed(" + v + ") without SQUARES", CanoeSides::new, y -> y.seed(v));
        }
    }

    private static void images() {
        Says.terms("IMAGES 0, 1 keep SQUARE, HEADING, strokes counted, THE SEED.");
        for (int i = 0; i <= 1; i++) {
            CanoeSides x = lively();
            int place = x.told(7);
            int heading = x.told(8);
            x.seed(77);
            x.keep(i);
            x.drift(20);
            x.set(7, 5, (heading + 3) % 8);
            x.line(2, 2);
            x.goBack(i);
            Due.due("SQUARE of " + i, x.told(7), place);
            Due.due("HEADING of " + i, x.told(8), heading);
            Due.due("strokes counted of " + i, x.told(9), 5);
            Due.due("THE LINE stays", x.told(15), 2);
            Due.due("THE BOOK stays", x.told(16), 1);
            Due.due("the time to the WIND goes by strokes counted", x.mute(15, 5, 0) - x.mute(15, 4, 0), 10);
            Due.due("THE SEED of " + i, x.seed(0), 77);
        }
    }

    private static void keep() {
        Says.promise(31, "IMAGE i becomes what is so (nothing can be taken back then): 1.");
        CanoeSides x = lively();
        Due.due("told(17)", x.told(17), 2);
        Due.due("keep(1)", x.keep(1), 1);
        Due.due("told(17) then", x.told(17), 0);
        Due.due("back(1) then", x.back(1), NOT);
        Due.due("strokes counted stay", x.told(9), 5);
        x.drift(4);
        Due.due("keep(0) anew", x.keep(0), 1);
        x.goBack(1);
        Due.due("the other one stays", x.told(9), 5);
        x.goBack(0);
        Due.due("kept anew", x.told(9), 9);
        CanoeSides none = new CanoeSides();
        none.seed(9);
        Due.due("keep(0) without SQUARES", none.keep(0), 1);
        none.seed(3);
        Due.due("goBack(0) without SQUARES", none.goBack(0), 1);
        Due.due("THE SEED then", none.seed(0), 9);
        Says.promise(31, "UNKNOWN.");
        for (int i : NO_IMAGE) {
            Says.refused(UNKNOWN, "keep(" + i + ")", ImageEdges::lively, y -> y.keep(i));
            Says.refused(UNKNOWN, "keep(" + i + ") without SQUARES", CanoeSides::new, y -> y.keep(i));
        }
    }

    private static void goBack() {
        Says.promise(32, "What is so becomes IMAGE i (nothing can be taken back then): 1.");
        CanoeSides x = lively();
        Due.due("told(17)", x.told(17), 2);
        Due.due("goBack(0)", x.goBack(0), 1);
        Due.due("told(17) then", x.told(17), 0);
        Due.due("back(1) then", x.back(1), NOT);
        Due.due("told(9)", x.told(9), 3);
        int place = x.drift(7);
        Due.due("goBack(0) again", x.goBack(0), 1);
        Due.due("told(9) again", x.told(9), 3);
        Due.due("the same draws again", x.drift(7), place);
        Due.due("back(7) of what came then", x.back(7), 3);
        Due.due("back(1) of what was before", x.back(1), NOT);
        Says.promise(32, "UNKNOWN, NOT: it was not kept.");
        for (int i : NO_IMAGE) {
            Says.refused(UNKNOWN, "goBack(" + i + ")", ImageEdges::lively, y -> y.goBack(i));
            Says.refused(UNKNOWN, "goBack(" + i + ") without SQUARES", CanoeSides::new, y -> y.goBack(i));
        }
        Says.refused(NOT, "goBack(1)", ImageEdges::lively, y -> y.goBack(1));
        Says.refused(NOT, "goBack(0) without SQUARES", CanoeSides::new, y -> y.goBack(0));
        Says.refused(NOT, "goBack(0) of a river where none was kept", () -> Due.on(OPEN), y -> y.goBack(0));
        CanoeSides gone = lively();
        Due.feed(gone, OPEN);
        gone.river();
        Due.due("gone by a new river", gone.goBack(0), NOT);
        CanoeSides stays = lively();
        Due.feed(stays, "r0");
        stays.river();
        Due.due("not by one with a FAULT", stays.goBack(0), 1);
    }
}
