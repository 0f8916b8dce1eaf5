/** The edges of THE RIVER's text, and of promises 1 to 7, sentence by sentence. */
final class TextEdges {
    private static final int NONE = CanoeSides.NONE, UNKNOWN = CanoeSides.UNKNOWN, OUTSIDE = CanoeSides.OUTSIDE,
        NOT = CanoeSides.NOT, FULL = CanoeSides.FULL;
    private static final String OPEN = "r8 6" + "........".repeat(6) + ";";

    private TextEdges() {
    }

    static void all() {
        refusals();
        nothingChanges();
        lastCalls();
        numbersAndPairs();
        squaresTold();
        clausesInAnyOrder();
        clauseForms();
        strengthsTold();
        boatTold();
        goalTold();
        windTold();
        habitsTold();
        numbers();
        words();
        rowsAndBlanks();
        whichFault();
        faultsByNumber();
        emptyText();
        newObject();
        feed();
        riverLeaves();
        riverWithFault();
        fault();
        told();
        toldOutside();
        square();
        habit();
    }

    /** '^' stands ahead of the letter that has the fault, or at the end. */
    private static void fault(int number, String marked) {
        int at = marked.indexOf('^');
        Due.fault(marked.substring(0, at) + marked.substring(at + 1), number, at);
    }

    private static void good(String text, int squares) {
        CanoeSides x = new CanoeSides();
        Due.feed(x, text);
        Due.due("river of '" + text + "'", x.river(), squares);
        Due.due("fault of '" + text + "'", x.fault(), NONE);
    }

    /** Good where the number stands within its bounds, else with fault 2 at its first figure; '^' stands ahead of it. */
    private static void bounds(String ahead, int least, int most, String behind) {
        for (int v : new int[] {0, least - 1, least, most, most + 1, 99, 999}) {
            if (v >= 0) {
                boolean within = v >= least && v <= most;
                if (within) {
                    CanoeSides x = Due.on(ahead + v + behind);
                    Due.due("fault of '" + ahead + v + behind + "'", x.fault(), NONE);
                    Due.due("W of it", x.told(0) > 0 ? 1 : 0, 1);
                } else {
                    fault(2, ahead + "^" + v + behind);
                }
            }
        }
    }

    private static void told(CanoeSides x, int from, int... want) {
        for (int i = 0; i < want.length; i++) {
            Due.due("told(" + (from + i) + ")", x.told(from + i), want[i]);
        }
    }

    // ---- what all the document rests on

    private static void refusals() {
        Says.terms("NONE is -1.");
        Due.due("NONE", NONE, -1);
        Says.says("The public face", "NONE = -1, UNKNOWN = -1000000001, OUTSIDE = -1000000002, NOT = -1000000003, FULL = -1000000004;");
        Says.terms("They are far below all that is counted: -1000000001 and on.");
        Due.due("UNKNOWN", UNKNOWN, -1000000001);
        Due.due("OUTSIDE", OUTSIDE, -1000000002);
        Due.due("NOT", NOT, -1000000003);
        Due.due("FULL", FULL, -1000000004);
        Says.terms("REFUSALS, of several the first in this order: UNKNOWN (a SQUARE, IMAGE that there is not), OUTSIDE (another number out"
            + " of its bounds), NOT (not now, as told), FULL.");
        CanoeSides x = Due.on("r2 1.#;");
        Due.due("UNKNOWN ahead of OUTSIDE: set", x.set(2, 0, 8), UNKNOWN);
        Due.due("UNKNOWN ahead of OUTSIDE: write", x.write(16, 0, 1), UNKNOWN);
        Due.due("OUTSIDE ahead of NOT: set", x.set(1, 0, 8), OUTSIDE);
        Due.due("OUTSIDE ahead of NOT: back", x.back(51), OUTSIDE);
        Due.due("UNKNOWN ahead of NOT: goBack", x.goBack(2), UNKNOWN);
        for (int i = 0; i < 20; i++) {
            x.line(0, 0);
            x.write(15, 0, 0);
        }
        Due.due("UNKNOWN ahead of FULL: line", x.line(2, 0), UNKNOWN);
        Due.due("UNKNOWN ahead of OUTSIDE and FULL: write", x.write(16, 2, 0), UNKNOWN);
        Due.due("UNKNOWN ahead of FULL: write", x.write(0, 0, -1), UNKNOWN);
        Due.due("OUTSIDE ahead of FULL: write", x.write(16, 0, 0), OUTSIDE);
        Due.due("FULL at last: line", x.line(0, 0), FULL);
        Due.due("FULL at last: write", x.write(15, 0, 0), FULL);
        Due.feed(x, " ".repeat(250));
        Due.due("OUTSIDE ahead of FULL: feed", x.feed(-1), OUTSIDE);
        Due.due("FULL at last: feed", x.feed(0), FULL);
    }

    private static void nothingChanges() {
        Says.terms("What is refused changes nothing.");
        Says.refused(UNKNOWN, "set(4, 0, 0)", TextEdges::lively, x -> x.set(4, 0, 0));
        Says.refused(OUTSIDE, "drift(100)", TextEdges::lively, x -> x.drift(100));
        Says.refused(OUTSIDE, "seed(-1)", TextEdges::lively, x -> x.seed(-1));
        Says.refused(NOT, "set(0, 1, 7)", TextEdges::lively, x -> x.set(0, 1, 7));
        Says.refused(NOT, "back(3)", TextEdges::lively, x -> x.back(3));
        CanoeSides x = lively();
        CanoeSides y = lively();
        Due.feed(x, " ".repeat(250));
        Due.feed(y, " ".repeat(250));
        Due.due("feed(120) to a full text", x.feed(120), FULL);
        Due.due("river()", x.river(), y.river());
        Says.same("a full text", x, y);
    }

    private static void lastCalls() {
        Says.says("What it is", "An object is used for at most 512 calls after it has been made;");
        CanoeSides x = new CanoeSides();
        Due.feed(x, "r2 1..;p1 1 20 20;w1 9;");
        x.river();
        int made = "r2 1..;p1 1 20 20;w1 9;".length() + 1;
        for (int strokes = 1; made + strokes <= 511; strokes++) {
            Due.due("stroke(3, 3), the " + strokes + "th", x.stroke(3, 3), strokes < 9 ? 0 : 10);
        }
        Due.due("the 512th call", x.told(9), 511 - made);
        CanoeSides drifting = new CanoeSides();
        Due.feed(drifting, "r1 1.;");
        drifting.river();
        for (int calls = 8; calls <= 511; calls++) {
            drifting.drift(99);
        }
        Due.due("the most strokes that can be counted", drifting.told(9), 504 * 99);
    }

    private static void numbersAndPairs() {
        Says.terms("What has a number has it from 0 on, as it comes.");
        fault(1, "^x");
        Due.due("the first SQUARE", Due.on("r2 1#.;").square(0, 0), 1);
        Due.due("the second SQUARE", Due.on("r2 1#.;").square(1, 0), 0);
        Says.terms("A PAIR tells a SQUARE as 10 times X and Y.");
        int[][] corners = {{0, 0, 0}, {7, 0, 70}, {0, 5, 5}, {7, 5, 75}};
        CanoeSides x = Due.on(OPEN);
        for (int[] c : corners) {
            x.set(c[0], c[1], 0);
            Due.due("told(7) at " + c[0] + " " + c[1], x.told(7), c[2]);
        }
    }

    // ---- clauses

    private static void squaresTold() {
        Says.terms("THE RIVER is told in a text (250 letters at most), letter by letter: clauses:");
        good("r1 1.;" + " ".repeat(244), 1);
        good(" ".repeat(244) + "r1 1.;", 1);
        Says.terms("(SQUARES X 0 .. W less 1, Y 0 .. H less 1, north is Y less 1;");
        CanoeSides x = Due.on("r3 2...#oe;b1 1 0;w0 1;p1 1 20 20;");
        Due.due("the last X and Y", x.square(2, 1), 4);
        Due.due("X of W", x.square(3, 1), UNKNOWN);
        Due.due("Y of H", x.square(2, 2), UNKNOWN);
        Due.due("to the north", x.stroke(3, 3), 10);
        Due.due("at Y 0 it stays", x.stroke(3, 3), 10);
        Says.terms("W 1 .. 8, H 1 .. 6;");
        for (int v : new int[] {0, 9, 10, 99, 999}) {
            fault(2, "r^" + v + " 1" + ".".repeat(9) + ";");
            fault(2, "r1 ^" + v + ".".repeat(9) + ";");
        }
        fault(2, "r1 ^7.......;");
        good("r1 1.;", 1);
        good("r8 1........;", 8);
        good("r1 6......;", 6);
        good("r8 6" + "o".repeat(48) + ";", 48);
        Says.terms("W times H letters:");
        fault(1, "r3 2.....^;");
        fault(1, "r3 2......^.;");
        fault(1, "r8 6" + ".".repeat(47) + "^;");
        fault(1, "r8 6" + ".".repeat(48) + "^.;");
        Says.terms("'.' open, '#' a bank, 'o' reeds, 'n' 'e' 's' 'w' a stream that way;");
        CanoeSides y = Due.on("r7 1.#onesw;");
        for (int i = 0; i < 7; i++) {
            Due.due("square(" + i + ", 0)", y.square(i, 0), i);
        }
        Says.terms("first, once)");
        fault(1, "^b0 0 0;r1 1.;");
        fault(1, "^p1 1 1 1;r1 1.;");
        fault(1, "^g0 0 0;r1 1.;");
        fault(1, "^w0 1;r1 1.;");
        fault(1, "^hlrbhlrbh;r1 1.;");
        fault(3, "r1 1.;^r1 1.;");
        fault(3, "r1 1.;b0 0 0;^r1 1.;");
    }

    private static void clausesInAnyOrder() {
        Says.terms("clauses:");
        String[] clauses = {"p3 4 5 6;", "b1 0 7;", "g0 1 3;", "w2 9;", "hbhlrrlhb;"};
        for (int first = 0; first < clauses.length; first++) {
            StringBuilder text = new StringBuilder("r2 2....;");
            for (int i = 0; i < clauses.length; i++) {
                text.append(clauses[(first + clauses.length - i) % clauses.length]);
            }
            CanoeSides x = Due.on(text.toString());
            told(x, 0, 2, 2, 3, 4, 5, 6, 0, 10, 7, 0, 1, 3, 2, 9, 0, 0, 0, 0);
            Due.due("habit(0, 0)", x.habit(0, 0), 2);
            told(Due.on("r2 2....;" + clauses[first]), 0, 2, 2);
            Due.due("each one alone", Due.on("r2 2....;" + clauses[first]).fault(), NONE);
        }
    }

    /** All that a clause has, in its order; one part less or more cannot stand there. */
    private static void clauseForms() {
        Says.terms("'r' W H ROW ';'");
        CanoeSides r = Due.on("r3 1#oe;");
        told(r, 0, 3, 1);
        Due.due("the ROW", 100 * r.square(0, 0) + 10 * r.square(1, 0) + r.square(2, 0), 124);
        fault(1, "r3^...;");
        fault(1, "r3 1^;");
        fault(1, "r3 1 ^1...;");
        fault(1, "r3 1...^");
        fault(1, "r3 1...^p1 1 1 1;");
        fault(1, "r3 1...;^;");
        Says.terms("'p' F B T P ';'");
        told(Due.on("r1 1.;p1 2 3 4;"), 2, 1, 2, 3, 4);
        form("r1 1.;p", "1 2 3 4");
        Says.terms("'b' X Y D ';'");
        told(Due.on("r2 2....;b1 0 5;"), 7, 10, 5);
        told(Due.on("r2 2....;b0 1 5;"), 7, 1, 5);
        form("r8 6" + ".".repeat(48) + ";b", "1 2 3");
        Says.terms("'g' X Y D ';'");
        told(Due.on("r2 2....;g1 0 5;"), 10, 10, 5);
        told(Due.on("r2 2....;g0 1 5;"), 10, 1, 5);
        form("r8 6" + ".".repeat(48) + ";g", "1 2 3");
        Says.terms("'w' D N ';'");
        told(Due.on("r1 1.;w1 2;"), 12, 1, 2);
        form("r1 1.;w", "1 2");
        Says.terms("'h' ROW ROW ';'");
        CanoeSides h = Due.on("r1 1.;hrrrr hhhh;");
        for (int stroke = 0; stroke < 4; stroke++) {
            Due.due("habit(0, " + stroke + ")", h.habit(0, stroke), 1);
            Due.due("habit(1, " + stroke + ")", h.habit(1, stroke), 3);
        }
        fault(1, "r1 1.;hlrbh lrb^;");
        fault(1, "r1 1.;hlrbh lrbh ^l;");
        fault(1, "r1 1.;hlrbh lrbh^");
        fault(1, "r1 1.;hlrbh ^1rbh;");
    }

    /** Good with these NUMBERS alone; with one less, one more, without the ';', or with another letter in its place. */
    private static void form(String ahead, String numbers) {
        Due.due("fault of '" + ahead + numbers + ";'", Due.on(ahead + numbers + ";").fault(), NONE);
        fault(1, ahead + numbers.substring(0, numbers.length() - 2) + "^;");
        fault(1, ahead + "^;");
        fault(1, ahead + numbers + " ^1;");
        fault(1, ahead + numbers + "^");
        fault(1, ahead + numbers + "^.");
        fault(1, ahead + numbers + ";^;");
    }

    private static void strengthsTold() {
        Says.terms("(STRENGTHS 1 .. 9 in front, behind;");
        bounds("r1 1.;p", 1, 9, " 1 1 1;");
        bounds("r1 1.;p1 ", 1, 9, " 1 1;");
        told(Due.on("r1 1.;p1 9 3 4;"), 2, 1, 9, 3, 4);
        told(Due.on("r1 1.;p9 1 3 4;"), 2, 9, 1, 3, 4);
        Says.terms("T 1 .. 20, P 1 .. 20;");
        bounds("r1 1.;p1 1 ", 1, 20, " 1;");
        bounds("r1 1.;p1 1 1 ", 1, 20, ";");
        told(Due.on("r1 1.;p3 4 1 20;"), 2, 3, 4, 1, 20);
        told(Due.on("r1 1.;p3 4 20 1;"), 2, 3, 4, 20, 1);
        Says.terms("2 2 2 2 untold; once)");
        told(Due.on("r1 1.;"), 2, 2, 2, 2, 2);
        CanoeSides x = Due.on("r1 1.;p3 4 5 6;");
        Due.feed(x, "r1 1.;");
        x.river();
        told(x, 2, 2, 2, 2, 2);
        fault(3, "r1 1.;p3 4 5 6;^p3 4 5 6;");
    }

    private static void boatTold() {
        Says.terms("(the boat, on a SQUARE that is no bank, HEADING D 0 .. 7;");
        bounds("r3 2......;b", 0, 2, " 0 0;");
        bounds("r3 2......;b0 ", 0, 1, " 0;");
        bounds("r3 2......;b0 0 ", 0, 7, ";");
        fault(4, "r3 2.....#;b2 ^1 0;");
        told(Due.on("r3 2o..es.;b2 1 7;"), 7, 21, 7);
        told(Due.on("r3 2o..es.;b0 0 0;"), 7, 0, 0);
        told(Due.on("r3 2o..es.;b1 1 3;"), 7, 11, 3);
        Says.terms("untold: the first such one, Y by Y, X rising, HEADING 0; once)");
        told(Due.on("r3 2......;"), 7, 0, 0);
        told(Due.on("r3 2##....;"), 7, 20, 0);
        told(Due.on("r3 2###.##;"), 7, 1, 0);
        told(Due.on("r3 2##.#..;"), 7, 20, 0);
        told(Due.on("r3 2#####.;"), 7, 21, 0);
        told(Due.on("r3 2#o#...;"), 7, 10, 0);
        told(Due.on("r3 2##w...;"), 7, 20, 0);
        fault(3, "r3 2......;b0 0 0;^b0 0 0;");
    }

    private static void goalTold() {
        Says.terms("(THE GOAL, on a SQUARE that is no bank, HEADING D, 8: any;");
        bounds("r3 2......;g", 0, 2, " 0 0;");
        bounds("r3 2......;g0 ", 0, 1, " 0;");
        bounds("r3 2......;g0 0 ", 0, 8, ";");
        fault(4, "r3 2.....#;g2 ^1 8;");
        told(Due.on("r3 2......;g2 1 8;"), 10, 21, 8);
        told(Due.on("r3 2......;g0 0 0;"), 10, 0, 0);
        CanoeSides x = Due.on("r1 1.;g0 0 8;");
        CanoeSides y = Due.on("r1 1.;g0 0 7;");
        for (int d = 0; d < 8; d++) {
            x.set(0, 0, d);
            y.set(0, 0, d);
            Due.due("any HEADING, " + d + " too", x.told(14), 1);
            Due.due("HEADING 7, not " + d, y.told(14), d == 7 ? 1 : 0);
        }
        Says.terms("untold: none; once)");
        told(Due.on("r1 1.;"), 10, NONE, NONE);
        Due.due("fewest(NONE)", Due.on("r1 1.;").fewest(NONE), NONE);
        CanoeSides z = Due.on("r1 1.;g0 0 0;w1 1;");
        Due.feed(z, "r1 1.;");
        z.river();
        told(z, 10, NONE, NONE, NONE, 0, 0);
        fault(3, "r1 1.;g0 0 0;^g0 0 0;");
    }

    private static void windTold() {
        Says.terms("(WIND: behind each N-th stroke, 1 .. 9, it drives one SQUARE to D, 0 north, 1 east, 2 south, 3 west;");
        bounds("r1 1.;w", 0, 3, " 1;");
        bounds("r1 1.;w0 ", 1, 9, ";");
        int[] driven = {32, 43, 34, 23};
        for (int way = 0; way < 4; way++) {
            for (int n = 1; n <= 9; n++) {
                CanoeSides x = Due.on(OPEN + "b3 3 0;p1 1 20 20;w" + way + " " + n + ";");
                told(x, 12, way, n);
                for (int i = 1; i < n; i++) {
                    Due.due("stroke " + i + " of " + n, x.stroke(3, 3), 33);
                }
                Due.due("stroke " + n + " of " + n + " to " + way, x.stroke(3, 3), driven[way]);
                Due.due("and again, " + n + " strokes on", x.mute(15, n, 0), 2 * driven[way] - 33);
                Due.due("not sooner", x.mute(15, n - 1, 0), driven[way]);
            }
        }
        Says.terms("untold: none; once)");
        told(Due.on("r1 1.;"), 12, NONE, 0);
        CanoeSides x = Due.on(OPEN + "b3 3 0;p1 1 20 20;");
        Due.due("99 strokes without WIND", x.drift(99), 33);
        fault(3, "r1 1.;w0 1;^w0 1;");
    }

    private static void habitsTold() {
        Says.terms("(HABITS of the one in front, of the one behind: four letters each: what is done behind the other's 'l', 'r', 'b',"
            + " 'h';");
        CanoeSides x = Due.on("r1 1.;hrhlb blhr;");
        int[] want = {1, 3, 0, 2, 2, 0, 3, 1};
        for (int i = 0; i < 8; i++) {
            Due.due("habit(" + i / 4 + ", " + i % 4 + ")", x.habit(i / 4, i % 4), want[i]);
        }
        fault(1, "r1 1.;hlrb^;");
        fault(1, "r1 1.;hlrbhlrb^;");
        fault(1, "r1 1.;hlrbhlrbh^l;");
        fault(1, "r1 1.;h^;");
        Says.terms("lrbh both untold; once).");
        Due.feed(x, "r1 1.;");
        x.river();
        for (int i = 0; i < 8; i++) {
            Due.due("untold habit(" + i / 4 + ", " + i % 4 + ")", x.habit(i / 4, i % 4), i % 4);
        }
        fault(3, "r1 1.;hlrbhlrbh;^hlrbhlrbh;");
    }

    // ---- numbers, words, rows, blanks

    private static void numbers() {
        Says.terms("NUMBERS have one to three figures;");
        good("r1 01.;", 1);
        good("r001 001.;", 1);
        told(Due.on("r1 1.;p009 1 020 20;"), 2, 9, 1, 20, 20);
        fault(2, "r^0001 1.;");
        fault(2, "r1 ^0001.;");
        fault(2, "r1 1.;p1 1 ^0020 1;");
        fault(1, "r^;");
        fault(1, "r1^;");
        fault(1, "r1^.;");
        fault(1, "r^-1 1.;");
        fault(1, "r^+1 1.;");
        Says.terms("two NUMBERS side by side need one.");
        fault(2, "r^11.;");
        fault(1, "r2 1..;b00^;");
        fault(2, "r1 1.;p^2222;");
        fault(2, "r1 1.;p^22 2 2;");
        fault(1, "r1 1.;w01^;");
        good("r1 1.;w0 1;", 1);
    }

    private static void words() {
        Says.terms("a word is one letter;");
        fault(1, "r^iver1 1.;");
        fault(1, "r^r1 1.;");
        fault(1, "r1 1.;b^oat0 0 0;");
        fault(1, "r1 1.;g^g0 0 0;");
        fault(1, "r1 1.;w^ind1 1;");
        fault(1, "r1 1.;p^p1 1 1 1;");
        fault(1, "r1 1.;h^alrbhlrbh;");
    }

    private static void rowsAndBlanks() {
        Says.terms("letters of ROWS stand side by side or with blanks (32);");
        good("r2 2 . . . . ;", 4);
        good("r2 2.. ..;", 4);
        good("r1 1.;hlrbhlrbh;", 1);
        good("r1 1.;h l r b h l r b h ;", 1);
        fault(1, "r2 2.^\t...;");
        fault(1, "r2 2.^,...;");
        fault(1, "r1 1.;hlrbh^\nlrbh;");
        Says.terms("blanks may stand anywhere but within NUMBERS;");
        good("  r  2  1  .  .  ;  p  1  2  3  4  ;  b  1  0  7  ;  g  0  0  8  ;  w  3  9  ;  h  l  r  b  h  l  r  b  h  ;  ", 2);
        fault(2, "r1 1.;p1 ^0 1 1;");
        fault(1, "r1 1.;p1 1 1 2 ^0;");
        fault(1, "^\tr1 1.;");
        fault(1, "r1 1.;^\n");
        fault(1, "r1 1.;^" + (char) 160);
        told(Due.on("r1 1.;p1 1 20 20;"), 4, 20, 20);
    }

    // ---- faults

    private static void whichFault() {
        Says.terms("FAULTS, at the first letter that has one");
        fault(1, "r1 1.;^x;p0 1 1 1;");
        fault(2, "r1 1.;p^0 1 1 1;x");
        fault(2, "r1 1.;p^0 0 21 21;");
        fault(3, "r1 1.;^r9 9;");
        fault(4, "r2 1.#;b1 ^0 9;");
        fault(4, "r2 1#^#x");
        fault(2, "r^9 7##;");
        fault(2, "r2 1.#;b^2 0 0;");
        Says.terms("(the end at the text's length)");
        fault(1, "r^");
        fault(1, "r1^");
        fault(1, "r1 1^");
        fault(1, "r1 1.^");
        fault(1, "r1 1.   ^");
        fault(1, "r1 1.;p1 1 1^");
        fault(1, "r1 1.;p1 1 1 1^");
        fault(1, "r1 1.;b0^");
        fault(1, "r1 1.;b0 0^");
        fault(1, "r1 1.;g0 0 8 ^");
        fault(1, "r1 1.;w^");
        fault(1, "r1 1.;hlrbhlrb^");
        fault(1, "r8 6" + ".".repeat(47) + "^");
        fault(1, "r1 1." + " ".repeat(245) + "^");
        Says.terms("of these the least:");
        fault(1, "r1 1.^r1 1.;");
        fault(1, "r1 1.;p1 1 1 1^p1 1 1 1;");
        fault(1, "r1 1.;b0 0 0^b0 0 0;");
        fault(2, "r2 1.#;b1 ^0000 0;");
        fault(2, "r2 1.#;g1 ^0000 0;");
    }

    private static void faultsByNumber() {
        Says.terms("1 it cannot stand there (a letter that is no word, another word first than 'r'; another one in a ROW; too few of a"
            + " ROW: at what is there in its place).");
        fault(1, "^x");
        fault(1, "r1 1.;^x1;");
        fault(1, "r1 1.;^R1 1.;");
        fault(1, "r1 1.;^;");
        fault(1, "r1 1.;^1");
        fault(1, "^" + (char) 255);
        fault(1, "^" + (char) 0);
        fault(1, "^b0 0 0;");
        fault(1, "   ^p1 1 1 1;");
        fault(1, "r2 1.^x;");
        fault(1, "r2 1.^N;");
        fault(1, "r2 1.^l;");
        fault(1, "r2 1.^1;");
        fault(1, "r1 1.;hlrbhlrb^.;");
        fault(1, "r1 1.;hlrb^Hlrbh;");
        fault(1, "r2 1.^;");
        fault(1, "r2 1. ^;");
        fault(1, "r2 1.^b0 0 0;");
        fault(1, "r1 1.;hlrbh^;");
        fault(1, "r1 1.^p1 1 1 1;");
        Says.terms("2 a NUMBER of four figures or more, or out of its bounds (at its first).");
        fault(2, "r^0001 1.;");
        fault(2, "r ^1000 1.;");
        fault(2, "r^12345678901234567890 1.;");
        fault(2, "r^4294967297 1.;");
        fault(2, "r1  ^9.;");
        fault(2, "r1 1.;w1 ^10;");
        fault(2, "r1 1.;w1 ^010;");
        fault(2, "r1 1.;g0 0 ^9x");
        Says.terms("3 a clause again (at it).");
        fault(3, "r1 1.;   ^r");
        fault(3, "r1 1.;p1 1 1 1;w1 1;^p");
        fault(3, "r1 1.;b0 0 0;  ^b");
        fault(3, "r1 1.;g0 0 0;^g");
        fault(3, "r1 1.;w0 1;^w9 9");
        fault(3, "r1 1.;hlrbhlrbh;^h");
        Says.terms("4 a SQUARE that is a bank (at the Y); banks alone (at the ROW's last letter).");
        fault(4, "r2 1.#;b1 ^0 0;");
        fault(4, "r2 1.#;b1    ^0 0;");
        fault(4, "r2 1.#;b01 ^000 0;");
        fault(4, "r2 1.#;g1 ^0 0;");
        fault(4, "r2 1.#;g1 ^0");
        fault(4, "r1 1^#;");
        fault(4, "r2 2## #  ^#  ;");
        fault(4, "r2 2## #^#");
        fault(4, "r8 6" + "#".repeat(47) + "^#;");
        good("r8 6" + "#".repeat(47) + "o;", 48);
        good("r2 1#n;", 2);
    }

    private static void emptyText() {
        Says.terms("An empty text (or of blanks alone): no SQUARES.");
        for (int blanks : new int[] {0, 1, 250}) {
            CanoeSides x = Due.on(OPEN + "p3 4 5 6;b1 1 1;g2 2 2;w3 3;hhhhhhhhh;");
            Due.feed(x, " ".repeat(blanks));
            Due.due("river() of " + blanks + " blanks", x.river(), 0);
            Due.due("its fault()", x.fault(), NONE);
            told(x, 0, 0, 0, 2, 2, 2, 2, 0, 0, 0, 0, NONE, NONE, NONE, 0, 0, 0, 0, 0);
            Due.due("square(0, 0)", x.square(0, 0), UNKNOWN);
            Due.due("stroke(0, 0)", x.stroke(0, 0), NOT);
            Due.due("habit(0, 0)", x.habit(0, 0), 0);
        }
    }

    // ---- promises 1 to 7

    private static void newObject() {
        Says.promise(1, "No SQUARES.");
        CanoeSides x = new CanoeSides();
        told(x, 0, 0, 0, 2, 2, 2, 2, 0, 0, 0, 0, NONE, NONE, NONE, 0, 0, 0, 0, 0);
        Due.due("square(0, 0)", x.square(0, 0), UNKNOWN);
        Due.due("set(0, 0, 0)", x.set(0, 0, 0), UNKNOWN);
        Due.due("line(0, 0)", x.line(0, 0), UNKNOWN);
        Due.due("write(0, 0, 0)", x.write(0, 0, 0), UNKNOWN);
        Due.due("stroke(0, 0)", x.stroke(0, 0), NOT);
        Due.due("fault()", x.fault(), NONE);
        Due.due("seed(0)", x.seed(0), 0);
        Due.due("tear()", x.tear(), 0);
    }

    private static void feed() {
        Says.promise(2, "A letter (0 .. 255) comes behind THE TEXT: how many it has.");
        CanoeSides x = new CanoeSides();
        Due.due("feed(0)", x.feed(0), 1);
        Due.due("feed(255)", x.feed(255), 2);
        Due.due("told(6)", x.told(6), 2);
        CanoeSides behind = new CanoeSides();
        Due.feed(behind, "r1 ");
        behind.told(0);
        Due.feed(behind, "1.;");
        Due.due("river() of a text in two parts", behind.river(), 1);
        Says.promise(2, "OUTSIDE, FULL (250).");
        for (int letter : new int[] {-1, 256, Integer.MIN_VALUE, Integer.MAX_VALUE}) {
            Says.refused(OUTSIDE, "feed(" + letter + ")", () -> fed("r2 1.."), y -> y.feed(letter));
        }
        CanoeSides full = new CanoeSides();
        for (int i = 1; i <= 250; i++) {
            Due.due("feed(32) the " + i + "th time", full.feed(32), i);
        }
        Due.due("feed(32) the 251st time", full.feed(32), FULL);
        Due.due("feed(256) then", full.feed(256), OUTSIDE);
        Due.due("told(6)", full.told(6), 250);
        Due.due("river()", full.river(), 0);
        Due.due("feed(32) to an empty text", full.feed(32), 1);
        CanoeSides last = new CanoeSides();
        Due.feed(last, "r1 1." + " ".repeat(244) + ";");
        Due.due("the 250th letter counts", last.river(), 1);
        CanoeSides beyond = new CanoeSides();
        Due.feed(beyond, "r1 1.;" + " ".repeat(244) + "x");
        Due.due("the 251st does not", beyond.river(), 1);
    }

    private static CanoeSides fed(String text) {
        CanoeSides x = Due.on("r3 1.o.;b1 0 2;g2 0 8;w1 2;");
        Due.feed(x, text);
        return x;
    }

    /** With strokes counted and to be taken back, a LINE, a BOOK, both IMAGES, a SEED, strengths, a goal, a wind, habits. */
    private static CanoeSides lively() {
        CanoeSides x = Due.on("r4 2....#o..;p1 1 3 1;b1 0 2;g3 0 8;w1 4;hrlbhhhhh;");
        x.stroke(0, 1);
        x.seed(11);
        x.keep(0);
        x.drift(2);
        x.keep(1);
        x.stroke(2, 2);
        x.stroke(0, 3);
        x.line(2, 0);
        x.line(1, 0);
        x.write(1, 2, 0);
        x.write(15, 3, 0);
        x.seed(777);
        return x;
    }

    private static void riverLeaves() {
        Says.promise(3, "THE TEXT (it is empty then, with a FAULT, too) becomes THE RIVER");
        for (String text : new String[] {"", "r1 1.;", "r1 1", "x"}) {
            CanoeSides x = lively();
            Due.feed(x, text);
            Due.due("told(6) ahead of river()", x.told(6), text.length());
            x.river();
            Due.due("told(6) behind it", x.told(6), 0);
            Due.due("feed(114) then", x.feed(114), 1);
        }
        Says.promise(3, "(the boat where it is told, no strokes counted; no LINE, no BOOK; IMAGES, strokes to be taken back are gone;"
            + " THE SEED stays): how many SQUARES;");
        CanoeSides x = lively();
        Due.feed(x, "r3 2......;b2 1 6;");
        Due.due("river()", x.river(), 6);
        told(x, 0, 3, 2, 2, 2, 2, 2, 0, 21, 6, 0, NONE, NONE, NONE, 0, 0, 0, 0, 0);
        Due.due("fits(NONE) of no LINE", x.fits(NONE), 1);
        Due.due("judge() of no BOOK", x.judge(), NONE);
        Due.due("tear()", x.tear(), 0);
        Due.due("goBack(0)", x.goBack(0), NOT);
        Due.due("goBack(1)", x.goBack(1), NOT);
        Due.due("back(1)", x.back(1), NOT);
        Due.due("seed(0)", x.seed(0), 777);
        CanoeSides again = Due.on("r5 1.....;p1 1 20 1;g4 0 8;w1 9;b0 0 2;");
        Due.due("fewest(NONE) of one river", again.fewest(NONE), 2);
        Due.due("calls(0, 1) of one river", again.calls(0, 1), 2);
        Due.due("surely(0) of one river", again.surely(0), 2);
        Due.feed(again, "r5 1.....;p1 1 20 2;g4 0 8;w1 9;b0 0 2;");
        again.river();
        Due.due("fewest(NONE) of the next one", again.fewest(NONE), 4);
        Due.due("calls(0, 1) of the next one", again.calls(0, 1), 4);
        Due.due("surely(0) of the next one", again.surely(0), 4);
        CanoeSides empty = lively();
        Due.due("river() of an empty text", empty.river(), 0);
        Due.due("goBack(0)", empty.goBack(0), NOT);
        Due.due("back(1)", empty.back(1), NOT);
        Due.due("tear()", empty.tear(), 0);
        Due.due("seed(0)", empty.seed(0), 777);
    }

    private static void riverWithFault() {
        Says.promise(3, "-10 less the number of its FAULT (all else is as it was).");
        String[] texts = {"x", "r9 1.........;", "r1 1.;r1 1.;", "r2 1##;"};
        for (int number = 1; number <= 4; number++) {
            CanoeSides x = lively();
            Due.feed(x, texts[number - 1]);
            Due.due("river() of '" + texts[number - 1] + "'", x.river(), -10 - number);
            CanoeSides y = lively();
            Due.feed(y, "x");
            y.river();
            Due.due("strokes to be taken back", x.told(17), 2);
            Due.due("lines of both", x.told(15) + x.told(16), 4);
            int[] faults = {0, 1, 6, 5};
            Due.due("its fault()", x.fault(), faults[number - 1]);
            Due.feed(x, "x");
            x.river();
            Says.same("all else is as it was", x, y);
        }
        CanoeSides x = lively();
        CanoeSides y = lively();
        Due.feed(x, "r8 6" + ".".repeat(48) + ";p9 9 9 9;b7 5 7;g6 5 7;w3 9;hbbbbbbbb;x");
        Due.due("a fault at the end of a whole river", x.river(), -11);
        for (int what = 0; what <= 17; what++) {
            Due.due("told(" + what + ")", x.told(what), y.told(what));
        }
        Due.due("seed(0)", x.seed(0), 777);
        Due.due("goBack(1)", x.goBack(1), 1);
    }

    private static void fault() {
        Says.promise(4, "The letter of the FAULT of the latest river(); NONE.");
        CanoeSides x = new CanoeSides();
        Due.due("ahead of all", x.fault(), NONE);
        Due.feed(x, "r1 1.;  x");
        Due.due("ahead of river()", x.fault(), NONE);
        x.river();
        Due.due("behind it", x.fault(), 8);
        Due.feed(x, "y");
        Due.due("it stays while a text is told", x.fault(), 8);
        x.river();
        Due.due("of the latest", x.fault(), 0);
        Due.feed(x, "r1 1.");
        x.river();
        Due.due("at the end", x.fault(), 5);
        Due.feed(x, "r1 1.;");
        x.river();
        Due.due("none then", x.fault(), NONE);
        Due.feed(x, " ".repeat(249) + "z");
        x.river();
        Due.due("at the last letter there can be", x.fault(), 249);
        Due.feed(x, "r1 1." + " ".repeat(245));
        x.river();
        Due.due("at the end of the longest text", x.fault(), 250);
        Due.due("river() of an empty text", x.river(), 0);
        Due.due("none then", x.fault(), NONE);
    }

    private static void told() {
        Says.promise(5, "0 W, 1 H, 2 strength in front, 3 behind, 4 T, 5 P, 6 letters of THE TEXT, 7 where the boat is (a PAIR; 0"
            + " without SQUARES), 8 HEADING, 9 strokes counted, 10 THE GOAL (a PAIR; NONE), 11 its HEADING (8 any; NONE), 12 WIND's"
            + " way (NONE), 13 its N (0), 14 whether it is at THE GOAL (1, 0), 15 SQUARES of THE LINE, 16 lines of THE BOOK, 17"
            + " strokes that can be taken back.");
        told(new CanoeSides(), 0, 0, 0, 2, 2, 2, 2, 0, 0, 0, 0, NONE, NONE, NONE, 0, 0, 0, 0, 0);
        CanoeSides x = Due.on("r8 6" + ".".repeat(48) + ";p3 4 5 6;b7 5 7;g7 5 8;w3 9;");
        told(x, 0, 8, 6, 3, 4, 5, 6, 0, 75, 7, 0, 75, 8, 3, 9, 1, 0, 0, 0);
        x.stroke(3, 3);
        x.stroke(3, 3);
        x.stroke(3, 3);
        x.line(0, 0);
        x.line(0, 0);
        x.write(0, 0, 0);
        Due.feed(x, "12345");
        told(x, 0, 8, 6, 3, 4, 5, 6, 5, 75, 7, 3, 75, 8, 3, 9, 1, 2, 1, 3);
        x.set(6, 5, 7);
        told(x, 7, 65, 7, 3, 75, 8, 3, 9, 0, 2, 1, 3);
        CanoeSides y = Due.on("r2 1..;g0 0 0;w0 1;");
        told(y, 7, 0, 0, 0, 0, 0, 0, 1, 1);
        y.set(0, 0, 1);
        Due.due("at THE GOAL's SQUARE, not its HEADING", y.told(14), 0);
        y.set(1, 0, 0);
        Due.due("its HEADING, not its SQUARE", y.told(14), 0);
        Due.due("without a GOAL", Due.on("r2 1..;").told(14), 0);
    }

    private static void toldOutside() {
        Says.promise(5, "OUTSIDE.");
        for (int what : new int[] {-1, 18, Integer.MIN_VALUE, Integer.MAX_VALUE}) {
            Says.refused(OUTSIDE, "told(" + what + ")", TextEdges::lively, x -> x.told(what));
            Due.due("told(" + what + ") without SQUARES", new CanoeSides().told(what), OUTSIDE);
        }
    }

    private static void square() {
        Says.promise(6, "What a SQUARE is: 0 open, 1 a bank, 2 reeds, 3 a stream north, 4 east, 5 south, 6 west.");
        CanoeSides x = Due.on("r8 6.#onesw." + ".".repeat(39) + "w;");
        for (int i = 0; i < 7; i++) {
            Due.due("square(" + i + ", 0)", x.square(i, 0), i);
        }
        Due.due("square(7, 5)", x.square(7, 5), 6);
        Says.promise(6, "UNKNOWN.");
        int[][] none = {{-1, 0}, {0, -1}, {3, 0}, {0, 2}, {3, 2}, {-1, -1}, {7, 0}, {0, 5}, {8, 0}, {0, 6},
            {Integer.MAX_VALUE, 0}, {0, Integer.MIN_VALUE}};
        for (int[] n : none) {
            Says.refused(UNKNOWN, "square(" + n[0] + ", " + n[1] + ")", () -> Due.on("r3 2......;"), y -> y.square(n[0], n[1]));
        }
        Due.due("square(8, 5) of the greatest river", x.square(8, 5), UNKNOWN);
        Due.due("square(7, 6) of the greatest river", x.square(7, 6), UNKNOWN);
        Due.due("square(0, 0) without SQUARES", new CanoeSides().square(0, 0), UNKNOWN);
    }

    private static void habit() {
        Says.promise(7, "HABIT of the one in front (0), behind (1): what is done behind a stroke (0 .. 3) of the other.");
        CanoeSides x = Due.on("r1 1.;hlbrh rhbl;");
        int[] want = {0, 2, 1, 3, 1, 3, 2, 0};
        for (int i = 0; i < 8; i++) {
            Due.due("habit(" + i / 4 + ", " + i % 4 + ")", x.habit(i / 4, i % 4), want[i]);
            Due.due("habit(" + i / 4 + ", " + i % 4 + ") without SQUARES", new CanoeSides().habit(i / 4, i % 4), i % 4);
        }
        Says.promise(7, "OUTSIDE.");
        int[][] odd = {{-1, 0}, {2, 0}, {0, -1}, {0, 4}, {1, 4}, {1, -1}, {-1, 4}, {Integer.MAX_VALUE, 0}, {0, Integer.MIN_VALUE}};
        for (int[] o : odd) {
            Says.refused(OUTSIDE, "habit(" + o[0] + ", " + o[1] + ")", TextEdges::lively, y -> y.habit(o[0], o[1]));
        }
    }
}
