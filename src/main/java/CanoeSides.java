import java.util.Arrays;

/**
 * Two in a canoe on a river of squares. The document's words in capitals are used here too;
 * of our own are three: a square's number is WIDEST times y and x; a "spot" is a square and a
 * heading in one number; a "moment" is a spot and the time since the latest wind.
 */
public final class CanoeSides {
    public static final int NONE = -1, UNKNOWN = -1000000001, OUTSIDE = -1000000002, NOT = -1000000003, FULL = -1000000004;

    private static final int WIDEST = 8, HIGHEST = 6, SQUARES = 48, HEADINGS = 8;
    private static final int SPOTS = 384, TIMES = 9, MOMENTS = 3456;
    private static final int BANK = 1, REEDS = 2, STREAMS = 3, ANY_HEADING = 8;
    private static final int LEFT = 0, RIGHT = 1, BACK = 2, HOLD = 3;
    private static final int PAIRS = 16, BOTH_LEFT = 0, BOTH_RIGHT = 5;
    private static final int MOST_LETTERS = 250, MOST_TAKEN_BACK = 50, MOST_TRIED = 60, MOST_SURE = 30;
    private static final int MOST_PUSH = 2, MOST_STILL = 3, MOST_SILENT = 99, MOST_MARKS = 4, MOST_ENTRIES = 20, IMAGES = 2;
    private static final int LAST_SEED = 2147483647, LOOP_GUARD = 1000000;
    private static final int[] EAST = {0, 1, 1, 1, 0, -1, -1, -1};
    private static final int[] SOUTH = {-1, -1, 0, 1, 1, 1, 0, -1};

    private final int[] letters = new int[MOST_LETTERS];
    private int lettersTold = 0;
    private int faultPlace = NONE;
    private River course = new River();
    private final Waters waters = new Waters();
    private final Crew crew = new Crew(waters);
    private final Crew three = new Crew(waters);
    private final Boat boat = new Boat();
    private final Boat[] images = new Boat[IMAGES];
    private final Log log = new Log();
    private final Lines lines = new Lines();
    private final Search search = new Search();
    private final Calling calling = new Calling();
    private final Gusts gusts = new Gusts();

    public CanoeSides() {
        goOnTo(course);
    }

    // ---- the river

    public int feed(int letter) {
        if (isOutside(letter, 0, 255)) {
            return OUTSIDE;
        }
        if (lettersTold < 0 || lettersTold >= letters.length) {
            return FULL;
        }
        letters[lettersTold] = letter;
        lettersTold++;
        return lettersTold;
    }

    public int river() {
        Reader reader = new Reader(letters, lettersTold);
        reader.readText();
        lettersTold = 0;
        faultPlace = reader.faultPlace;
        if (reader.fault != 0) {
            return -10 - reader.fault;
        }
        goOnTo(reader.course);
        return course.wide * course.high;
    }

    public int fault() {
        return faultPlace;
    }

    public int told(int what) {
        if (isOutside(what, 0, 17)) {
            return OUTSIDE;
        }
        return what < 7 ? toldOfText(what) : what < 14 ? toldOfTrip(what) : toldOfCounts(what);
    }

    public int square(int x, int y) {
        return course.has(x, y) ? course.kindOf(y * WIDEST + x) : UNKNOWN;
    }

    public int habit(int who, int stroke) {
        if (isOutside(who, 0, 1) || isOutside(stroke, LEFT, HOLD)) {
            return OUTSIDE;
        }
        return course.habitOf(who, stroke);
    }

    // ---- strokes

    public int stroke(int a, int b) {
        if (isOutside(a, LEFT, HOLD) || isOutside(b, LEFT, HOLD)) {
            return OUTSIDE;
        }
        if (noSquares()) {
            return NOT;
        }
        paddle(4 * a + b);
        return placeOf(boat.spot / HEADINGS);
    }

    public int would(int a, int b, int what) {
        if (isOutside(a, LEFT, HOLD) || isOutside(b, LEFT, HOLD) || isOutside(what, 0, 3)) {
            return OUTSIDE;
        }
        if (noSquares()) {
            return NOT;
        }
        int pair = 4 * a + b;
        switch (what) {
            case 0: return placeOf(squareOf(crew.after(moment(), pair)));
            case 1: return headingOf(crew.after(moment(), pair));
            case 2: return crew.turnOf(pair);
            default: return crew.pushOf(pair);
        }
    }

    public int back(int n) {
        if (isOutside(n, 1, MOST_TAKEN_BACK)) {
            return OUTSIDE;
        }
        if (n > log.kept) {
            return NOT;
        }
        boat.spot = log.takeBack(n);
        boat.strokes -= n;
        return boat.strokes;
    }

    public int set(int x, int y, int d) {
        if (!course.has(x, y)) {
            return UNKNOWN;
        }
        if (isOutside(d, 0, HEADINGS - 1)) {
            return OUTSIDE;
        }
        int square = y * WIDEST + x;
        if (course.kindOf(square) == BANK) {
            return NOT;
        }
        int was = placeOf(boat.spot / HEADINGS);
        boat.spot = square * HEADINGS + d;
        return was;
    }

    public int drift(int n) {
        if (isOutside(n, 1, 99)) {
            return OUTSIDE;
        }
        if (noSquares()) {
            return NOT;
        }
        for (int i = 0; i < n; i++) {
            paddle(boat.draw(PAIRS));
        }
        return placeOf(boat.spot / HEADINGS);
    }

    // ---- ways

    public int fewest(int i) {
        if (noSquares()) {
            return NOT;
        }
        search.look(course, crew, moment(), 0);
        return i == NONE ? search.strokes : search.pairAt(i);
    }

    public int calls(int pair, int what) {
        if (isOutside(pair, 0, PAIRS - 1) || isOutside(what, 0, 1)) {
            return OUTSIDE;
        }
        if (noSquares()) {
            return NOT;
        }
        calling.look(course, crew, moment(), pair);
        return what == 0 ? calling.callsMade : calling.strokes;
    }

    public int mute(int pair, int n, int what) {
        if (isOutside(pair, 0, PAIRS - 1) || isOutside(n, 0, MOST_SILENT) || isOutside(what, 0, 2)) {
            return OUTSIDE;
        }
        if (noSquares()) {
            return NOT;
        }
        int now = moment() * PAIRS + pair;
        for (int i = 0; i < n; i++) {
            now = afterSilently(now);
        }
        switch (what) {
            case 0: return placeOf(squareOf(now / PAIRS));
            case 1: return headingOf(now / PAIRS);
            default: return now % PAIRS;
        }
    }

    public int round(int pair, int what) {
        if (isOutside(pair, 0, PAIRS - 1) || isOutside(what, 0, 1)) {
            return OUTSIDE;
        }
        if (noSquares()) {
            return NOT;
        }
        int first = moment() * PAIRS + pair;
        int loop = loopFrom(first);
        return what == 0 ? leadFrom(first, loop) : loop;
    }

    public int off(int k, int n, int what) {
        if (isOutside(k, 1, 99) || isOutside(n, 1, 99) || isOutside(what, 0, 1)) {
            return OUTSIDE;
        }
        return offStraight(k, n, what == 0);
    }

    public int best(int n) {
        if (isOutside(n, 1, 99)) {
            return OUTSIDE;
        }
        int found = 1;
        for (int k = 2; k <= 9; k++) {
            int more = Math.abs(offStraight(k, n, true)) - Math.abs(offStraight(found, n, true));
            if (more < 0 || more == 0 && offStraight(k, n, false) > offStraight(found, n, false)) {
                found = k;
            }
        }
        return found;
    }

    public int still(int i) {
        if (noSquares()) {
            return NOT;
        }
        for (int many = 1; many <= MOST_STILL; many++) {
            int row = stillRow(many);
            if (row != NONE) {
                return i == NONE ? many : i < 0 || i >= many ? NONE : pairOfRow(row, many, i);
            }
        }
        return NONE;
    }

    public int surely(int what) {
        if (isOutside(what, 0, 1)) {
            return OUTSIDE;
        }
        if (noSquares()) {
            return NOT;
        }
        gusts.look(course, crew, boat.spot);
        return what == 0 ? gusts.strokes : gusts.firstPair;
    }

    public int alone() {
        if (noSquares()) {
            return NOT;
        }
        search.look(course, crew, moment(), Search.ALONE);
        return search.strokes;
    }

    public int third(int c) {
        if (isOutside(c, 1, 9)) {
            return OUTSIDE;
        }
        if (noSquares()) {
            return NOT;
        }
        three.take(course, c);
        search.look(course, three, moment(), c);
        return search.strokes;
    }

    public int rules(int what) {
        if (isOutside(what, 0, 2)) {
            return OUTSIDE;
        }
        if (noSquares()) {
            return NOT;
        }
        int soonest = NONE;
        int ruled = NONE;
        for (int both = 0; both < PAIRS; both++) {
            int strokes = strokesByRules(both);
            if (strokes != NONE && (soonest == NONE || strokes < soonest)) {
                soonest = strokes;
                ruled = both;
            }
        }
        if (soonest == NONE) {
            return NONE;
        }
        return what == 0 ? soonest : what == 1 ? ruled / 4 : ruled % 4;
    }

    // ---- lines

    public int line(int x, int y) {
        if (!course.has(x, y)) {
            return UNKNOWN;
        }
        return lines.addMark(y * WIDEST + x) ? lines.marks : FULL;
    }

    public int fits(int i) {
        if (noSquares()) {
            return NOT;
        }
        lines.countWays(crew, moment());
        return i == NONE ? lines.waysFrom(0, moment()) : lines.firstPairAt(i, crew, moment());
    }

    public int gave(int who) {
        if (isOutside(who, 0, 1)) {
            return OUTSIDE;
        }
        if (noSquares()) {
            return NOT;
        }
        lines.countWays(crew, moment());
        return lines.heldAlways(who, crew, moment());
    }

    public int write(int pair, int x, int y) {
        if (!course.has(x, y)) {
            return UNKNOWN;
        }
        if (isOutside(pair, 0, PAIRS - 1)) {
            return OUTSIDE;
        }
        return lines.addEntry(pair, y * WIDEST + x) ? lines.entries : FULL;
    }

    public int judge() {
        if (noSquares()) {
            return NOT;
        }
        return lines.firstWrong(crew, moment());
    }

    public int tear() {
        int had = lines.marks + lines.entries;
        lines.empty();
        return had;
    }

    // ---- images

    public int seed(int v) {
        if (isOutside(v, 0, LAST_SEED)) {
            return OUTSIDE;
        }
        int was = boat.seedNow;
        boat.seedNow = v;
        return was;
    }

    public int keep(int i) {
        if (isOutside(i, 0, images.length - 1)) {
            return UNKNOWN;
        }
        Boat image = new Boat();
        image.become(boat);
        images[i] = image;
        log.forget();
        return 1;
    }

    public int goBack(int i) {
        if (isOutside(i, 0, images.length - 1)) {
            return UNKNOWN;
        }
        Boat image = images[i];
        if (image == null) {
            return NOT;
        }
        boat.become(image);
        log.forget();
        return 1;
    }

    // ---- helpers of the calls

    private static boolean isOutside(int v, int least, int most) {
        return v < least || v > most;
    }

    private static int squareOf(int moment) {
        return moment % SPOTS / HEADINGS;
    }

    private static int headingOf(int moment) {
        return moment % HEADINGS;
    }

    private static int placeOf(int square) {
        return 10 * (square % WIDEST) + square / WIDEST;
    }

    private static int eastOf(int heading) {
        return EAST[heading & (HEADINGS - 1)];
    }

    private static int southOf(int heading) {
        return SOUTH[heading & (HEADINGS - 1)];
    }

    private boolean noSquares() {
        return course.wide == 0;
    }

    private int moment() {
        return waters.timeBehind(boat.strokes) * SPOTS + boat.spot;
    }

    /** Puts the boat on a river just told; the seed alone goes on as it was. */
    private void goOnTo(River told) {
        course = told;
        waters.chart(told);
        crew.take(told, 0);
        boat.spot = told.startSpot;
        boat.strokes = 0;
        for (int i = 0; i < images.length; i++) {
            images[i] = null;
        }
        log.forget();
        lines.empty();
        search.forget();
        calling.forget();
        gusts.forget();
    }

    private void paddle(int pair) {
        int next = crew.after(moment(), pair);
        log.add(boat.spot);
        boat.spot = next % SPOTS;
        boat.strokes++;
    }

    private int toldOfText(int what) {
        switch (what) {
            case 0: return course.wide;
            case 1: return course.high;
            case 2: return course.strengthInFront;
            case 3: return course.strengthBehind;
            case 4: return course.turnPart;
            case 5: return course.pushPart;
            default: return lettersTold;
        }
    }

    private int toldOfTrip(int what) {
        switch (what) {
            case 7: return placeOf(boat.spot / HEADINGS);
            case 8: return headingOf(boat.spot);
            case 9: return boat.strokes;
            case 10: return course.goalSquare == NONE ? NONE : placeOf(course.goalSquare);
            case 11: return course.goalHeading;
            case 12: return course.windWay;
            default: return course.windEvery;
        }
    }

    private int toldOfCounts(int what) {
        switch (what) {
            case 14: return course.isGoal(boat.spot) ? 1 : 0;
            case 15: return lines.marks;
            case 16: return lines.entries;
            default: return log.kept;
        }
    }

    /** One stroke of two who do not speak: a moment and the pair that comes next are in one number. */
    private int afterSilently(int now) {
        int pair = now % PAIRS;
        int inFront = course.habitOf(0, pair % 4);
        int behind = course.habitOf(1, pair / 4);
        return crew.after(now / PAIRS, pair) * PAIRS + 4 * inFront + behind;
    }

    /** Brent's way: no row of all that was seen is needed, and it ends within three times lead and loop. */
    private int loopFrom(int first) {
        int waits = first;
        int runs = afterSilently(first);
        int loop = 1;
        int reach = 1;
        for (int guard = 0; guard < LOOP_GUARD && waits != runs; guard++) {
            if (loop == reach) {
                waits = runs;
                reach *= 2;
                loop = 0;
            }
            runs = afterSilently(runs);
            loop++;
        }
        return loop;
    }

    private int leadFrom(int first, int loop) {
        int behind = first;
        int ahead = first;
        for (int i = 0; i < loop; i++) {
            ahead = afterSilently(ahead);
        }
        int lead = 0;
        for (; lead < LOOP_GUARD && behind != ahead; lead++) {
            behind = afterSilently(behind);
            ahead = afterSilently(ahead);
        }
        return lead;
    }

    private int offStraight(int k, int n, boolean toTheEast) {
        int heading = 0;
        int gone = 0;
        for (int i = 0; i < n; i++) {
            int pair = k > 0 && i / k % 2 == 1 ? BOTH_RIGHT : BOTH_LEFT;
            heading = (heading + crew.turnOf(pair)) & (HEADINGS - 1);
            gone += crew.pushOf(pair) * (toTheEast ? eastOf(heading) : -southOf(heading));
        }
        return gone;
    }

    /** The first row of so many pairs that lies still, its pairs as figures to the base of 16; rising numbers are rows in order. */
    private int stillRow(int many) {
        int rows = 1 << 4 * many;
        for (int row = 0; row < rows; row++) {
            int now = moment();
            for (int i = 0; i < many; i++) {
                now = crew.after(now, pairOfRow(row, many, i));
            }
            if (now % SPOTS == boat.spot) {
                return row;
            }
        }
        return NONE;
    }

    private static int pairOfRow(int row, int many, int i) {
        return row >> 4 * (many - 1 - i) & PAIRS - 1;
    }

    private int strokesByRules(int both) {
        int now = moment();
        int a = LEFT;
        int b = LEFT;
        for (int strokes = 0; strokes <= MOST_TRIED; strokes++) {
            if (course.isGoal(now % SPOTS)) {
                return strokes;
            }
            now = crew.after(now, 4 * a + b);
            int latest = a;
            a = byRule(both / 4, b);
            b = byRule(both % 4, latest);
        }
        return NONE;
    }

    private static int byRule(int rule, int other) {
        switch (rule) {
            case 0: return LEFT;
            case 1: return RIGHT;
            case 2: return other;
            default: return other == LEFT ? RIGHT : other == RIGHT ? LEFT : other;
        }
    }

    // ---- classes inside

    /** What a text tells; untold things are as the document has them, squares beyond the river are banks. */
    private static final class River {
        private int wide = 0;
        private int high = 0;
        private final int[] kinds = new int[SQUARES];
        private int strengthInFront = 2;
        private int strengthBehind = 2;
        private int turnPart = 2;
        private int pushPart = 2;
        private int startSpot = 0;
        private int goalSquare = NONE;
        private int goalHeading = NONE;
        private int windWay = NONE;
        private int windEvery = 0;
        private final int[] habits = {LEFT, RIGHT, BACK, HOLD, LEFT, RIGHT, BACK, HOLD};

        River() {
            Arrays.fill(kinds, BANK);
        }

        boolean has(int x, int y) {
            return x >= 0 && x < wide && y >= 0 && y < high;
        }

        int kindOf(int square) {
            return square >= 0 && square < kinds.length ? kinds[square] : BANK;
        }

        void putKind(int square, int kind) {
            if (square >= 0 && square < kinds.length) {
                kinds[square] = kind;
            }
        }

        int habitOf(int who, int stroke) {
            int at = 4 * who + stroke;
            return at >= 0 && at < habits.length ? habits[at] : HOLD;
        }

        boolean isGoal(int spot) {
            return goalSquare != NONE && spot / HEADINGS == goalSquare
                && (goalHeading == ANY_HEADING || spot % HEADINGS == goalHeading);
        }

        /** The first square that is no bank, y by y; NONE where banks are all. */
        int firstOpen() {
            for (int square = 0; square < kinds.length; square++) {
                if (kinds[square] != BANK) {
                    return square;
                }
            }
            return NONE;
        }

        /** One square on, or the same one where a bank or the end is ahead. */
        int neighbour(int square, int heading) {
            int x = square % WIDEST + eastOf(heading);
            int y = square / WIDEST + southOf(heading);
            if (x < 0 || x >= WIDEST || y < 0 || y >= HIGHEST) {
                return square;
            }
            int next = y * WIDEST + x;
            return kindOf(next) == BANK ? square : next;
        }

        /** Where a push leads from a square, its stream told in. */
        int pushed(int square, int heading, int push) {
            int at = square;
            int way = push < 0 ? heading + 4 : heading;
            int squares = kindOf(square) == REEDS ? 0 : Math.abs(push);
            for (int i = 0; i < squares && i < MOST_PUSH; i++) {
                at = neighbour(at, way);
            }
            int kind = kindOf(at);
            return kind < STREAMS ? at : neighbour(at, 2 * (kind - STREAMS));
        }

        int blown(int square) {
            return windWay == NONE ? square : neighbour(square, 2 * windWay);
        }
    }

    /** Reads a text up to its end or to its first fault. */
    private static final class Reader {
        private static final String CLAUSES = "rpbgwh", KINDS = ".#onesw", STROKES = "lrbh";
        private static final int MOST_FIGURES = 3, NO_LETTER = 256;

        private final int[] letters;
        private final int end;
        private final River course = new River();
        private int at = 0;
        private int clausesRead = 0;
        private int numberPlace = 0;
        private int fault = 0;
        private int faultPlace = NONE;

        Reader(int[] letters, int end) {
            this.letters = letters;
            this.end = Math.min(end, letters.length);
        }

        void readText() {
            skipBlanks();
            for (int i = 0; i <= MOST_LETTERS && fault == 0 && at < end; i++) {
                readClause();
                skipBlanks();
            }
        }

        private void readClause() {
            int clause = CLAUSES.indexOf((char) letterHere());
            if (clause < 0 || clausesRead == 0 && clause != 0) {
                fail(1, at);
                return;
            }
            if ((clausesRead >> clause & 1) != 0) {
                fail(3, at);
                return;
            }
            clausesRead |= 1 << clause;
            at++;
            switch (clause) {
                case 0: readSquares(); break;
                case 1: readStrengths(); break;
                case 2: readBoat(); break;
                case 3: readGoal(); break;
                case 4: readWind(); break;
                default: readHabits(); break;
            }
            readEnd();
        }

        private void readSquares() {
            int wide = readNumber(1, WIDEST);
            int high = readNumber(1, HIGHEST);
            for (int y = 0; y < high; y++) {
                for (int x = 0; x < wide; x++) {
                    int kind = readOneOf(KINDS);
                    if (fault != 0) {
                        return;
                    }
                    course.putKind(y * WIDEST + x, kind);
                }
            }
            int open = course.firstOpen();
            if (open == NONE) {
                fail(4, at - 1);
            }
            course.wide = wide;
            course.high = high;
            course.startSpot = open * HEADINGS;
        }

        private void readStrengths() {
            course.strengthInFront = readNumber(1, 9);
            course.strengthBehind = readNumber(1, 9);
            course.turnPart = readNumber(1, 20);
            course.pushPart = readNumber(1, 20);
        }

        private void readBoat() {
            int square = readSquare();
            course.startSpot = square * HEADINGS + readNumber(0, HEADINGS - 1);
        }

        private void readGoal() {
            course.goalSquare = readSquare();
            course.goalHeading = readNumber(0, ANY_HEADING);
        }

        private void readWind() {
            course.windWay = readNumber(0, 3);
            course.windEvery = readNumber(1, TIMES);
        }

        private void readHabits() {
            for (int i = 0; i < course.habits.length; i++) {
                course.habits[i] = readOneOf(STROKES);
            }
        }

        /** A square that is no bank. */
        private int readSquare() {
            int x = readNumber(0, course.wide - 1);
            int y = readNumber(0, course.high - 1);
            int square = y * WIDEST + x;
            if (course.kindOf(square) == BANK) {
                fail(4, numberPlace);
            }
            return square;
        }

        private int readNumber(int least, int most) {
            skipBlanks();
            numberPlace = at;
            int value = 0;
            while (at < end && isFigure(letterHere())) {
                if (at - numberPlace < MOST_FIGURES) {
                    value = 10 * value + letterHere() - '0';
                }
                at++;
            }
            int figures = at - numberPlace;
            if (figures == 0) {
                fail(1, at);
            } else if (figures > MOST_FIGURES || value < least || value > most) {
                fail(2, numberPlace);
            }
            return fault == 0 ? value : least;
        }

        private int readOneOf(String signs) {
            skipBlanks();
            int which = signs.indexOf((char) letterHere());
            if (which < 0) {
                fail(1, at);
                return 0;
            }
            at++;
            return which;
        }

        private void readEnd() {
            skipBlanks();
            if (letterHere() != ';') {
                fail(1, at);
            }
            at++;
        }

        private void skipBlanks() {
            while (at < end && at < letters.length && letters[at] == ' ') {
                at++;
            }
        }

        /** The letter here; at the end one that stands nowhere. */
        private int letterHere() {
            return at >= 0 && at < end && at < letters.length ? letters[at] : NO_LETTER;
        }

        private static boolean isFigure(int letter) {
            return letter >= '0' && letter <= '9';
        }

        /** The first fault met stays: reading goes from left to right, and what follows a fault is not judged. */
        private void fail(int number, int place) {
            if (fault == 0) {
                fault = number;
                faultPlace = place;
            }
        }
    }

    /** Where each push leads on a river, and where its wind drives, looked up once for all that is tried. */
    private static final class Waters {
        private static final int PUSHES = 5;

        private final int[] leads = new int[SPOTS * PUSHES];
        private final int[] blown = new int[SQUARES];
        private int times = 1;

        void chart(River course) {
            times = Math.max(1, course.windEvery);
            for (int square = 0; square < blown.length; square++) {
                blown[square] = course.blown(square);
            }
            for (int at = 0; at < leads.length; at++) {
                int spot = at / PUSHES;
                leads[at] = course.pushed(spot / HEADINGS, spot % HEADINGS, at % PUSHES - MOST_PUSH);
            }
        }

        /** How many strokes the latest wind is past. */
        int timeBehind(int strokes) {
            return strokes % Math.max(1, times);
        }

        /** The spot behind a stroke and its stream, without wind. */
        int calm(int spot, int turn, int push) {
            int heading = (spot + turn) & (HEADINGS - 1);
            int turned = spot / HEADINGS * HEADINGS + heading;
            int at = turned * PUSHES + push + MOST_PUSH;
            return at >= 0 && at < leads.length ? leads[at] * HEADINGS + heading : spot;
        }

        int gust(int spot) {
            int square = spot / HEADINGS;
            return square >= 0 && square < blown.length ? blown[square] * HEADINGS + spot % HEADINGS : spot;
        }

        int after(int moment, int turn, int push) {
            int time = moment / SPOTS + 1;
            int spot = calm(moment % SPOTS, turn, push);
            return time < times ? time * SPOTS + spot : gust(spot);
        }
    }

    /** Two or three who paddle: what each PAIR of theirs does. */
    private static final class Crew {
        private final Waters waters;
        private final int[] turns = new int[PAIRS];
        private final int[] pushes = new int[PAIRS];

        Crew(Waters waters) {
            this.waters = waters;
        }

        /** One who kneels does all as the one in front, so its strength comes to that one's. */
        void take(River course, int kneeling) {
            int front = course.strengthInFront + kneeling;
            int behind = course.strengthBehind;
            for (int pair = 0; pair < PAIRS && pair < turns.length && pair < pushes.length; pair++) {
                int a = pair / 4;
                int b = pair % 4;
                turns[pair] = (front * turning(a) + 2 * behind * turning(b)) / Math.max(1, course.turnPart);
                int push = (front * pushing(a) + behind * pushing(b)) / Math.max(1, course.pushPart);
                pushes[pair] = Math.max(-MOST_PUSH, Math.min(MOST_PUSH, push));
            }
        }

        private static int turning(int stroke) {
            return stroke == LEFT ? 1 : stroke == RIGHT ? -1 : 0;
        }

        private static int pushing(int stroke) {
            return stroke == BACK ? -1 : stroke == HOLD ? 0 : 1;
        }

        int turnOf(int pair) {
            return pair >= 0 && pair < turns.length ? turns[pair] : 0;
        }

        int pushOf(int pair) {
            return pair >= 0 && pair < pushes.length ? pushes[pair] : 0;
        }

        int calm(int spot, int pair) {
            return waters.calm(spot, turnOf(pair), pushOf(pair));
        }

        int after(int moment, int pair) {
            return waters.after(moment, turnOf(pair), pushOf(pair));
        }
    }

    /** All that an image keeps. */
    private static final class Boat {
        private int spot = 0;
        private int strokes = 0;
        private int seedNow = 0;

        void become(Boat other) {
            spot = other.spot;
            strokes = other.strokes;
            seedNow = other.seedNow;
        }

        int draw(int n) {
            seedNow = (int) (seedNow * 1103515245L + 12345L & LAST_SEED);
            return n > 0 ? seedNow / 65536 % n : 0;
        }
    }

    /** The spots before the latest strokes, in a ring: the oldest gives way. */
    private static final class Log {
        private final int[] spots = new int[MOST_TAKEN_BACK];
        private int next = 0;
        private int kept = 0;

        void add(int spot) {
            if (next >= 0 && next < spots.length) {
                spots[next] = spot;
            }
            next = (next + 1) % MOST_TAKEN_BACK;
            kept = Math.min(kept + 1, MOST_TAKEN_BACK);
        }

        int takeBack(int n) {
            next = Math.floorMod(next - n, MOST_TAKEN_BACK);
            kept -= n;
            return next >= 0 && next < spots.length ? spots[next] : 0;
        }

        void forget() {
            kept = 0;
        }
    }

    /** FEWEST: moments spread stroke by stroke, pairs in their order, so the first way to each one is the first of the shortest. */
    private static final class Search {
        private static final int ALONE = 10, KINDS = 11;

        private final int[] cameBy = new int[MOMENTS];
        private final int[] queue = new int[MOMENTS];
        private final int[] row = new int[MOST_TRIED];
        private int queued = 0;
        private int found = NONE;
        private int strokes = NONE;
        private int lookedFor = NONE;

        /** The same look twice in a row answers from the row that it left. */
        void forget() {
            lookedFor = NONE;
        }

        /** The kind is 0 for both, 1 to 9 for a third one's strength, ALONE for the one in front alone. */
        void look(River course, Crew crew, int start, int kind) {
            int looking = start * KINDS + kind;
            if (looking == lookedFor) {
                return;
            }
            lookedFor = looking;
            strokes = NONE;
            found = NONE;
            if (course.goalSquare == NONE) {
                return;
            }
            if (course.isGoal(start % SPOTS)) {
                strokes = 0;
                return;
            }
            Arrays.fill(cameBy, NONE);
            queued = 0;
            reach(start, start * PAIRS);
            spreadAll(course, crew, kind == ALONE ? HOLD : 0, kind == ALONE ? 4 : 1);
        }

        private void spreadAll(River course, Crew crew, int firstPair, int pairStep) {
            int from = 0;
            for (int depth = 1; depth <= MOST_TRIED && found == NONE; depth++) {
                int upTo = queued;
                for (int at = from; at < upTo && at < queue.length && found == NONE; at++) {
                    spread(course, crew, queue[at], firstPair, pairStep);
                }
                from = upTo;
                if (found != NONE) {
                    strokes = depth;
                    tellRow();
                }
            }
        }

        private void spread(River course, Crew crew, int moment, int firstPair, int pairStep) {
            for (int pair = firstPair; pair < PAIRS; pair += Math.max(1, pairStep)) {
                int next = crew.after(moment, pair);
                if (reach(next, moment * PAIRS + pair) && course.isGoal(next % SPOTS)) {
                    found = next;
                    return;
                }
            }
        }

        /** Whether it is reached for the first time. */
        private boolean reach(int moment, int by) {
            if (moment < 0 || moment >= cameBy.length || cameBy[moment] != NONE || queued >= queue.length) {
                return false;
            }
            cameBy[moment] = by;
            queue[queued] = moment;
            queued++;
            return true;
        }

        private void tellRow() {
            int moment = found;
            for (int i = strokes - 1; i >= 0 && i < row.length; i--) {
                int by = moment >= 0 && moment < cameBy.length ? cameBy[moment] : 0;
                row[i] = by % PAIRS;
                moment = by / PAIRS;
            }
        }

        int pairAt(int i) {
            return i >= 0 && i < strokes && i < row.length ? row[i] : NONE;
        }
    }

    /**
     * CALLS, call by call: from each moment that a call more has brought nearer, each pair is paddled on as long as
     * it comes anywhere sooner. A "call" to the same pair is let pass: it only wastes a call, so it never answers.
     */
    private static final class Calling {
        private static final int FAR = 99, STAMP = 64;

        private final int[] before = new int[MOMENTS];
        private final int[] least = new int[MOMENTS];
        private final int[] passed = new int[MOMENTS];
        private final int[] sources = new int[MOMENTS];
        private int pass = 0;
        private int soonest = FAR;
        private int callsMade = NONE;
        private int strokes = NONE;
        private int lookedFor = NONE;

        void forget() {
            lookedFor = NONE;
        }

        void look(River course, Crew crew, int start, int pair) {
            int looking = start * PAIRS + pair;
            if (looking == lookedFor || start < 0 || start >= least.length) {
                return;
            }
            lookedFor = looking;
            callsMade = NONE;
            strokes = NONE;
            if (course.goalSquare == NONE) {
                return;
            }
            Arrays.fill(before, FAR);
            Arrays.fill(least, FAR);
            least[start] = 0;
            soonest = course.isGoal(start % SPOTS) ? 0 : FAR;
            pass++;
            goOn(course, crew, start, 0, pair);
            callOnAndOn(course, crew);
        }

        private void callOnAndOn(River course, Crew crew) {
            int many = 0;
            for (; many < MOST_TRIED && soonest == FAR; many++) {
                int nearer = gatherSources();
                for (int pair = 0; pair < PAIRS && nearer > 0; pair++) {
                    pass++;
                    for (int i = 0; i < nearer && i < sources.length; i++) {
                        goOn(course, crew, sources[i], strokesTo(sources[i]), pair);
                    }
                }
            }
            if (soonest != FAR) {
                callsMade = many;
                strokes = soonest;
            }
        }

        private int gatherSources() {
            int many = 0;
            for (int moment = 0; moment < least.length && moment < before.length; moment++) {
                if (least[moment] < before[moment] && many < sources.length) {
                    before[moment] = least[moment];
                    sources[many] = moment;
                    many++;
                }
            }
            return many;
        }

        private int strokesTo(int source) {
            return source >= 0 && source < before.length ? before[source] : FAR;
        }

        /** Stops where an earlier call, or this same pair from another moment, was as soon: all behind it is known. */
        private void goOn(River course, Crew crew, int from, int since, int pair) {
            int moment = from;
            for (int t = since + 1; t <= MOST_TRIED; t++) {
                moment = crew.after(moment, pair);
                int stamp = pass * STAMP + STAMP - 1 - t;
                if (moment < 0 || moment >= MOMENTS || before[moment] <= t || passed[moment] >= stamp) {
                    return;
                }
                passed[moment] = stamp;
                least[moment] = Math.min(least[moment], t);
                if (t < soonest && course.isGoal(moment % SPOTS)) {
                    soonest = t;
                }
            }
        }
    }

    /** SURELY: spots that are so many strokes from the goal at the worst, stroke by stroke from the goal on. */
    private static final class Gusts {
        private static final int FAR = 99;

        private final int[] worst = new int[SPOTS];
        private int strokes = NONE;
        private int firstPair = NONE;
        private int lookedFor = NONE;

        void forget() {
            lookedFor = NONE;
        }

        void look(River course, Crew crew, int spot) {
            if (spot == lookedFor || spot < 0 || spot >= worst.length) {
                return;
            }
            lookedFor = spot;
            strokes = NONE;
            firstPair = NONE;
            if (course.windWay == NONE || course.goalSquare == NONE) {
                return;
            }
            for (int at = 0; at < worst.length; at++) {
                worst[at] = course.isGoal(at) ? 0 : FAR;
            }
            boolean more = true;
            for (int many = 1; many <= MOST_SURE && more && worst[spot] == FAR; many++) {
                more = widen(course, crew, many);
            }
            if (worst[spot] != FAR) {
                strokes = worst[spot];
                firstPair = surePair(crew, spot, strokes);
            }
        }

        private boolean widen(River course, Crew crew, int many) {
            boolean more = false;
            for (int at = 0; at < worst.length; at++) {
                if (worst[at] == FAR && course.kindOf(at / HEADINGS) != BANK && surePair(crew, at, many) != NONE) {
                    worst[at] = many;
                    more = true;
                }
            }
            return more;
        }

        /** The first pair behind which, gust or none, fewer than so many strokes are left. */
        private int surePair(Crew crew, int spot, int many) {
            for (int pair = 0; pair < PAIRS; pair++) {
                int calm = crew.calm(spot, pair);
                if (worstOf(calm) < many && worstOf(crew.waters.gust(calm)) < many) {
                    return pair;
                }
            }
            return NONE;
        }

        private int worstOf(int spot) {
            return spot >= 0 && spot < worst.length ? worst[spot] : FAR;
        }
    }

    /**
     * THE LINE and THE BOOK. Behind k strokes that fit, the square is told by THE LINE and the time by k, so the
     * rows that fit are counted heading by heading.
     */
    private static final class Lines {
        private final int[] squares = new int[MOST_MARKS];
        private final int[] ways = new int[(MOST_MARKS + 1) * HEADINGS];
        private final int[] pairs = new int[MOST_ENTRIES];
        private final int[] places = new int[MOST_ENTRIES];
        private int marks = 0;
        private int entries = 0;

        boolean addMark(int square) {
            if (marks < 0 || marks >= squares.length) {
                return false;
            }
            squares[marks] = square;
            marks++;
            return true;
        }

        boolean addEntry(int pair, int square) {
            if (entries < 0 || entries >= pairs.length || entries >= places.length) {
                return false;
            }
            pairs[entries] = pair;
            places[entries] = square;
            entries++;
            return true;
        }

        void empty() {
            marks = 0;
            entries = 0;
        }

        int firstWrong(Crew crew, int start) {
            int now = start;
            for (int i = 0; i < entries && i < pairs.length && i < places.length; i++) {
                now = crew.after(now, pairs[i]);
                if (squareOf(now) != places[i]) {
                    return i;
                }
            }
            return NONE;
        }

        /** How many rows fit from each heading on, the last strokes first. */
        void countWays(Crew crew, int start) {
            for (int at = 0; at < ways.length; at++) {
                ways[at] = at / HEADINGS == marks ? 1 : 0;
            }
            int behindAll = Math.max(0, Math.min(marks * HEADINGS, ways.length));
            for (int at = behindAll - 1; at >= 0; at--) {
                int k = at / HEADINGS;
                int now = momentBehind(k, at % HEADINGS, crew, start);
                int sum = 0;
                for (int pair = 0; pair < PAIRS; pair++) {
                    sum += waysBehind(k, crew.after(now, pair));
                }
                ways[at] = sum;
            }
        }

        private int momentBehind(int k, int heading, Crew crew, int start) {
            int square = k > 0 && k <= squares.length ? squares[k - 1] : squareOf(start);
            int time = crew.waters.timeBehind(start / SPOTS + k);
            return time * SPOTS + square * HEADINGS + heading;
        }

        int waysFrom(int k, int moment) {
            int at = k * HEADINGS + headingOf(moment);
            return at >= 0 && at < ways.length ? ways[at] : 0;
        }

        /** How many rows go on from where the k-th stroke leads; none where it fits not. */
        private int waysBehind(int k, int moment) {
            boolean fitting = k >= 0 && k < marks && k < squares.length && squareOf(moment) == squares[k];
            return fitting ? waysFrom(k + 1, moment) : 0;
        }

        int firstPairAt(int i, Crew crew, int start) {
            if (i < 0 || i >= marks || waysFrom(0, start) == 0) {
                return NONE;
            }
            int now = start;
            for (int k = 0; k < i; k++) {
                now = crew.after(now, firstPair(k, crew, now));
            }
            return firstPair(i, crew, now);
        }

        private int firstPair(int k, Crew crew, int moment) {
            for (int pair = 0; pair < PAIRS; pair++) {
                if (waysBehind(k, crew.after(moment, pair)) > 0) {
                    return pair;
                }
            }
            return NONE;
        }

        /** The strokes at which one held in all that fits; headings that can be are carried as a set. */
        int heldAlways(int who, Crew crew, int start) {
            if (waysFrom(0, start) == 0) {
                return 0;
            }
            int held = (1 << marks) - 1;
            int headings = 1 << headingOf(start);
            for (int k = 0; k < marks; k++) {
                int next = 0;
                for (int at = 0; at < HEADINGS * PAIRS; at++) {
                    int pair = at % PAIRS;
                    int moment = crew.after(momentBehind(k, at / PAIRS, crew, start), pair);
                    if ((headings >> at / PAIRS & 1) != 0 && waysBehind(k, moment) > 0) {
                        next |= 1 << headingOf(moment);
                        held &= (who == 0 ? pair / 4 : pair % 4) == HOLD ? held : ~(1 << k);
                    }
                }
                headings = next;
            }
            return held;
        }
    }
}
