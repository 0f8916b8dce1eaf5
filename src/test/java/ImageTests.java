/** Promises 30 to 32. */
public final class ImageTests {
    private static final int UNKNOWN = CanoeSides.UNKNOWN, OUTSIDE = CanoeSides.OUTSIDE, NOT = CanoeSides.NOT;
    private static final String OPEN = "r8 6" + "........".repeat(6) + ";";

    public static void main(String[] args) {
        seed();
        keepAndGoBack();
        refusals();
        Due.end("ImageTests");
    }

    private static void seed() {
        CanoeSides x = Due.on(OPEN);
        Due.due("at first", x.seed(2147483647), 0);
        Due.due("the most", x.seed(0), 2147483647);
        Due.due("below 0", x.seed(-1), OUTSIDE);
        Due.due("far below 0", x.seed(Integer.MIN_VALUE), OUTSIDE);
        Due.due("it stays", x.seed(1), 0);
        x.drift(1);
        Due.due("a draw", x.seed(1), 1103527590);
        x.drift(1);
        Due.due("the same pair again, 6: right in front turns an eighth", x.told(8), 6);
        Due.due("two strokes", x.told(9), 2);
        x.seed(2147483647);
        x.drift(1);
        Due.due("the draw of the most", x.seed(0), (int) ((2147483647L * 1103515245L + 12345L) % 2147483648L));
    }

    private static void keepAndGoBack() {
        CanoeSides x = Due.on(OPEN + "p1 1 3 2;b3 3 0;w1 5;");
        x.stroke(0, 0);
        x.stroke(0, 1);
        x.seed(42);
        Due.due("keep", x.keep(1), 1);
        Due.due("nothing can be taken back", x.told(17), 0);
        Due.due("back behind keep", x.back(1), NOT);
        int place = x.told(7);
        int heading = x.told(8);
        int there = x.drift(9);
        Due.due("nine can be taken back", x.told(17), 9);
        Due.due("the other one was not kept", x.goBack(0), NOT);
        Due.due("nothing changed by it", x.told(17), 9);
        Due.due("goBack", x.goBack(1), 1);
        Due.due("its square", x.told(7), place);
        Due.due("its heading", x.told(8), heading);
        Due.due("its strokes", x.told(9), 2);
        Due.due("nothing can be taken back then", x.told(17), 0);
        Due.due("its seed: the same drift again", x.drift(9), there);
        x.keep(0);
        x.goBack(1);
        Due.due("the seed of the image", x.seed(3), 42);
        Due.due("kept still", x.goBack(1), 1);
        Due.due("with its seed", x.seed(3), 42);
        Due.due("the other one", x.goBack(0), 1);
        Due.due("where it was", x.told(7), there);
        Due.due("its strokes", x.told(9), 11);
        x.set(0, 0, 4);
        x.keep(1);
        x.set(5, 5, 5);
        x.goBack(1);
        Due.due("kept anew", x.told(7) * 10 + x.told(8), 4);
        Due.due("the wind's time goes with the strokes", x.mute(15, 4, 0), 10);
    }

    private static void refusals() {
        CanoeSides x = Due.on(OPEN);
        int[] odd = {-1, 2, Integer.MAX_VALUE, Integer.MIN_VALUE, 32, 33};
        x.keep(0);
        x.keep(1);
        for (int i : odd) {
            Due.due("keep " + i, x.keep(i), UNKNOWN);
            Due.due("goBack " + i, x.goBack(i), UNKNOWN);
        }
        x.stroke(0, 0);
        x.keep(2);
        x.goBack(2);
        Due.due("refused, all stays", x.told(17), 1);
        Due.due("not kept", Due.on(OPEN).goBack(1), NOT);
    }
}
