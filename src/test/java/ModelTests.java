import java.util.Random;

/** Runs of calls by draws of a fixed seed, each answer judged by the Model. */
public final class ModelTests {
    private static final int RUNS = 700, CALLS = 512;
    private static final String LETTERS = "rpbgwh;.#onesw lrbh01234567890 \u00ff";

    public static void main(String[] args) {
        int runs = args.length > 0 ? Integer.parseInt(args[0]) : RUNS;
        int from = args.length > 1 ? Integer.parseInt(args[1]) : 1;
        for (int run = from; run < from + runs; run++) {
            new ModelTests(run).run();
        }
        Due.end("ModelTests");
    }

    private final int run;
    private final Random random;
    private final CanoeSides canoe = new CanoeSides();
    private final Model model = new Model();
    private int calls = 0;
    private int wide = 8;
    private int high = 6;

    private ModelTests(int run) {
        this.run = run;
        this.random = new Random(run);
    }

    private void run() {
        boolean faulty = run % 4 == 0;
        while (calls < CALLS) {
            tell(faulty ? spoilt(text()) : text());
            int many = faulty ? 3 : 10 + random.nextInt(300);
            for (int i = 0; i < many && calls < CALLS; i++) {
                call();
            }
        }
    }

    private int draw(int n) {
        return random.nextInt(n);
    }

    /** Mostly from least to most, now and then beside it. */
    private int near(int least, int most) {
        if (draw(40) == 0) {
            int[] odd = {least - 1, most + 1, Integer.MIN_VALUE, Integer.MAX_VALUE, 0, -1};
            return odd[draw(odd.length)];
        }
        return least + draw(most - least + 1);
    }

    private String text() {
        wide = 1 + draw(draw(3) == 0 ? 8 : 5);
        high = 1 + draw(draw(3) == 0 ? 6 : 4);
        String kinds = draw(2) == 0 ? "......#o" : "...##oonesw";
        StringBuilder text = new StringBuilder("r" + wide + " " + high);
        StringBuilder squares = new StringBuilder();
        for (int i = 0; i < wide * high; i++) {
            squares.append(kinds.charAt(draw(kinds.length())));
        }
        text.append(squares).append(";");
        if (draw(4) != 0) {
            text.append("p" + (1 + draw(9)) + " " + (1 + draw(9)) + " " + (1 + draw(draw(2) == 0 ? 20 : 6)) + " "
                + (1 + draw(draw(2) == 0 ? 20 : 5)) + ";");
        }
        if (draw(3) == 0) {
            text.append("b" + draw(wide) + " " + draw(high) + " " + draw(8) + ";");
        }
        if (draw(8) != 0) {
            int at = draw(wide * high);
            for (int i = 0; i < 9 && squares.charAt(at) == '#'; i++) {
                at = draw(wide * high);
            }
            text.append("g" + at % wide + " " + at / wide + " " + (draw(2) == 0 ? 8 : draw(8)) + ";");
        }
        if (draw(4) != 0) {
            text.append("w" + draw(4) + " " + (1 + draw(9)) + ";");
        }
        if (draw(2) == 0) {
            text.append("h");
            for (int i = 0; i < 8; i++) {
                text.append("lrbh".charAt(draw(4)));
            }
            text.append(";");
        }
        return text.toString();
    }

    private String spoilt(String text) {
        StringBuilder spoilt = new StringBuilder(text);
        for (int i = draw(4); i > 0 && spoilt.length() > 0; i--) {
            int at = draw(Math.max(1, spoilt.length() - 1));
            char letter = LETTERS.charAt(draw(LETTERS.length()));
            switch (draw(5)) {
                case 4: spoilt.append(draw(2) == 0 ? "w1 3;" : "p1 1 1 1;"); break;
                case 0: spoilt.setCharAt(at, letter); break;
                case 1: spoilt.insert(at, letter); break;
                case 2: spoilt.deleteCharAt(at); break;
                default: spoilt.setLength(Math.max(1, draw(3) == 0 ? at : spoilt.length())); break;
            }
        }
        return spoilt.toString();
    }

    private void tell(String text) {
        for (int i = 0; i < text.length() && calls < CALLS - 2; i++) {
            due("feed " + (int) text.charAt(i), canoe.feed(text.charAt(i)), model.feed(text.charAt(i)));
        }
        due("river '" + text + "'", canoe.river(), model.river());
        due("fault '" + text + "'", canoe.fault(), model.fault());
        if (calls < CALLS - 18) {
            for (int what = 0; what < 18; what++) {
                due("told " + what, canoe.told(what), model.told(what));
            }
        }
    }

    private void due(String call, int got, int want) {
        calls++;
        Due.due("run " + run + " call " + calls + ": " + call, got, want);
    }

    private void call() {
        switch (draw(6)) {
            case 0: river(); break;
            case 1: strokes(); break;
            case 2: case 3: ways(); break;
            case 4: lines(); break;
            default: images(); break;
        }
    }

    private void river() {
        int a = near(0, 17);
        int who = near(0, 1);
        int b = near(0, 3);
        int x = near(0, wide - 1);
        int y = near(0, high - 1);
        switch (draw(3)) {
            case 0: due("told " + a, canoe.told(a), model.told(a)); break;
            case 1: due("square " + x + " " + y, canoe.square(x, y), model.square(x, y)); break;
            default: due("habit " + who + " " + b, canoe.habit(who, b), model.habit(who, b)); break;
        }
    }

    private void strokes() {
        int a = near(0, 3);
        int b = near(0, 3);
        int d = near(0, 7);
        int x = near(0, wide - 1);
        int y = near(0, high - 1);
        int n = draw(8) == 0 ? near(1, 99) : near(1, 6);
        switch (draw(6)) {
            case 0: case 1: due("stroke " + a + " " + b, canoe.stroke(a, b), model.stroke(a, b)); break;
            case 2: due("would " + a + " " + b + " " + d, canoe.would(a, b, d), model.would(a, b, d)); break;
            case 3: due("back " + n, canoe.back(n), model.back(n)); break;
            case 4: due("set " + x + " " + y + " " + d, canoe.set(x, y, d), model.set(x, y, d)); break;
            default: due("drift " + n, canoe.drift(n), model.drift(n)); break;
        }
    }

    private void ways() {
        int i = near(-1, 8);
        int pair = near(0, 15);
        int what = near(0, 1);
        int n = near(0, 99);
        int c = near(1, 9);
        int w = near(0, 2);
        int k = draw(2) == 0 ? near(1, 9) : near(1, 99);
        switch (draw(13)) {
            case 0: case 1: due("fewest " + i, canoe.fewest(i), model.fewest(i)); break;
            case 2: due("calls " + pair + " " + what, canoe.calls(pair, what), model.calls(pair, what)); break;
            case 3: due("mute " + pair + " " + n + " " + what, canoe.mute(pair, n, what), model.mute(pair, n, what)); break;
            case 4: due("mute " + pair + " " + n + " 2", canoe.mute(pair, n, 2), model.mute(pair, n, 2)); break;
            case 5: due("round " + pair + " " + what, canoe.round(pair, what), model.round(pair, what)); break;
            case 6: due("off " + k + " " + n + " " + what, canoe.off(k, n, what), model.off(k, n, what)); break;
            case 7: due("best " + n, canoe.best(n), model.best(n)); break;
            case 8: due("still " + i, canoe.still(i), model.still(i)); break;
            case 9: due("surely " + what, canoe.surely(what), model.surely(what)); break;
            case 10: due("alone", canoe.alone(), model.alone()); break;
            case 11: due("third " + c, canoe.third(c), model.third(c)); break;
            default: due("rules " + w, canoe.rules(w), model.rules(w)); break;
        }
    }

    private void lines() {
        int a = near(0, 3);
        int b = near(0, 3);
        int x = near(0, wide - 1);
        int y = near(0, high - 1);
        int there = canoe.would(a & 3, b & 3, 0);
        calls++;
        if (there >= 0 && draw(3) != 0) {
            x = there / 10;
            y = there % 10;
        }
        int i = near(-1, 4);
        int pair = near(0, 15);
        int who = near(0, 1);
        switch (draw(9)) {
            case 0: case 1: due("line " + x + " " + y, canoe.line(x, y), model.line(x, y)); break;
            case 2: case 3: due("fits " + i, canoe.fits(i), model.fits(i)); break;
            case 4: due("gave " + who, canoe.gave(who), model.gave(who)); break;
            case 5: due("write " + (4 * a + b), canoe.write(4 * a + b, x, y), model.write(4 * a + b, x, y));
                due("write " + pair, canoe.write(pair, x, y), model.write(pair, x, y)); break;
            case 6: case 7: due("judge", canoe.judge(), model.judge()); break;
            default: if (draw(3) == 0) {
                due("tear", canoe.tear(), model.tear());
            }
        }
    }

    private void images() {
        int i = near(0, 1);
        int v = draw(2) == 0 ? draw(1000) : draw(Integer.MAX_VALUE);
        switch (draw(8)) {
            case 0: due("keep " + i, canoe.keep(i), model.keep(i)); break;
            case 1: due("goBack " + i, canoe.goBack(i), model.goBack(i)); break;
            case 2: due("seed " + v, canoe.seed(v), model.seed(v)); break;
            case 3: due("seed " + -v, canoe.seed(-v), model.seed(-v)); break;
            default: due("told 17", canoe.told(17), model.told(17)); break;
        }
    }
}
