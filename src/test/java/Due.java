/** Counts answers that are not due; each test class ends with end(). */
final class Due {
    private static int asked = 0;
    private static int wrong = 0;
    private static String about = "";

    private Due() {
    }

    static void due(String call, long got, long want) {
        asked++;
        if (got != want) {
            wrong++;
            if (wrong <= 40) {
                System.out.println(about + call + " answered " + got + ", due is " + want);
            }
        }
    }

    /** What the answers that follow are for, told ahead of each that is not due. */
    static void about(String what) {
        about = what;
    }

    static void row(String call, int[] got, int... want) {
        due(call + " length", got.length, want.length);
        for (int i = 0; i < Math.min(got.length, want.length); i++) {
            due(call + " [" + i + "]", got[i], want[i]);
        }
    }

    static void end(String name) {
        System.out.println(name + ": " + asked + " answers, " + wrong + " not as due");
        if (wrong != 0 || asked == 0) {
            System.exit(1);
        }
    }

    static void feed(CanoeSides canoe, String text) {
        for (int i = 0; i < text.length(); i++) {
            canoe.feed(text.charAt(i));
        }
    }

    static CanoeSides on(String text) {
        CanoeSides canoe = new CanoeSides();
        feed(canoe, text);
        canoe.river();
        return canoe;
    }

    /** A text with a fault, on an object that has another river: the answer, the letter, and that all else stays. */
    static void fault(String text, int number, int letter) {
        CanoeSides canoe = on("r2 1..;b1 0 3;");
        feed(canoe, text);
        due("river of '" + text + "'", canoe.river(), -10 - number);
        due("fault of '" + text + "'", canoe.fault(), letter);
        due("text behind '" + text + "'", canoe.told(6), 0);
        due("W behind '" + text + "'", canoe.told(0), 2);
        due("boat behind '" + text + "'", canoe.told(7), 10);
    }
}
