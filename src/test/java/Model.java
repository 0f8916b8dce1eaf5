import java.util.ArrayList;
import java.util.Arrays;
import java.util.HashMap;
import java.util.List;
import java.util.Map;

/**
 * The document once more, in the slowest and plainest way: rows of all strokes, sets of states stroke by stroke.
 * It shares nothing with the class that it judges but the numbers of the document.
 */
final class Model {
    static final int NONE = -1, UNKNOWN = -1000000001, OUTSIDE = -1000000002, NOT = -1000000003, FULL = -1000000004;
    private static final int[][] WAYS = {{0, -1}, {1, -1}, {1, 0}, {1, 1}, {0, 1}, {-1, 1}, {-1, 0}, {-1, -1}};

    /** Where it is, and the strokes counted. */
    record At(int x, int y, int d, int count) {
    }

    record Kept(At at, long seed) {
    }

    private String text = "";
    private int faultAt = NONE;
    private String[] map = {};
    private int front = 2, behind = 2, t = 2, p = 2;
    private int[] goal = null;
    private int[] wind = null;
    private String[] habits = {"lrbh", "lrbh"};
    private At at = new At(0, 0, 0, 0);
    private long seed = 0;
    private final List<At> past = new ArrayList<>();
    private final List<int[]> line = new ArrayList<>();
    private final List<int[]> book = new ArrayList<>();
    private final Kept[] images = new Kept[2];

    // ---- the text, by a pattern for each clause

    private static final class Fault extends RuntimeException {
        final int number, place;

        Fault(int number, int place) {
            this.number = number;
            this.place = place;
        }
    }

    private int pos;

    private char letter() {
        return pos < text.length() ? text.charAt(pos) : '\uffff';
    }

    private void blanks() {
        while (letter() == ' ') {
            pos++;
        }
    }

    private int number(int least, int most) {
        blanks();
        int from = pos;
        String figures = "";
        while (letter() >= '0' && letter() <= '9') {
            figures += letter();
            pos++;
        }
        if (figures.isEmpty()) {
            throw new Fault(1, from);
        }
        if (figures.length() > 3 || Integer.parseInt(figures) < least || Integer.parseInt(figures) > most) {
            throw new Fault(2, from);
        }
        return Integer.parseInt(figures);
    }

    private String signs(String of, int many) {
        String row = "";
        while (row.length() < many) {
            blanks();
            if (of.indexOf(letter()) < 0) {
                throw new Fault(1, pos);
            }
            row += letter();
            pos++;
        }
        return row;
    }

    private int[] place(String[] rows) {
        int x = number(0, rows[0].length() - 1);
        blanks();
        int from = pos;
        int y = number(0, rows.length - 1);
        if (rows[y].charAt(x) == '#') {
            throw new Fault(4, from);
        }
        return new int[] {x, y};
    }

    int river() {
        Model told = new Model();
        told.text = text;
        text = "";
        try {
            told.readAll();
        } catch (Fault f) {
            faultAt = f.place;
            return -10 - f.number;
        }
        faultAt = NONE;
        map = told.map;
        front = told.front;
        behind = told.behind;
        t = told.t;
        p = told.p;
        goal = told.goal;
        wind = told.wind;
        habits = told.habits;
        at = told.at;
        past.clear();
        line.clear();
        book.clear();
        Arrays.fill(images, null);
        return map.length == 0 ? 0 : map.length * map[0].length();
    }

    private void readAll() {
        String had = "";
        for (blanks(); pos < text.length(); blanks()) {
            char word = letter();
            if ("rpbgwh".indexOf(word) < 0 || had.isEmpty() && word != 'r') {
                throw new Fault(1, pos);
            }
            if (had.indexOf(word) >= 0) {
                throw new Fault(3, pos);
            }
            had += word;
            pos++;
            if (word == 'r') {
                int w = number(1, 8);
                int h = number(1, 6);
                String all = signs(".#onesw", w * h);
                if (all.replace("#", "").isEmpty()) {
                    throw new Fault(4, pos - 1);
                }
                map = new String[h];
                for (int y = 0; y < h; y++) {
                    map[y] = all.substring(y * w, y * w + w);
                }
                int open = 0;
                while (all.charAt(open) == '#') {
                    open++;
                }
                at = new At(open % w, open / w, 0, 0);
            } else if (word == 'p') {
                front = number(1, 9);
                behind = number(1, 9);
                t = number(1, 20);
                p = number(1, 20);
            } else if (word == 'b') {
                int[] xy = place(map);
                at = new At(xy[0], xy[1], number(0, 7), 0);
            } else if (word == 'g') {
                int[] xy = place(map);
                goal = new int[] {xy[0], xy[1], number(0, 8)};
            } else if (word == 'w') {
                int way = number(0, 3);
                wind = new int[] {way, number(1, 9)};
            } else {
                String first = signs("lrbh", 4);
                habits = new String[] {first, signs("lrbh", 4)};
            }
            blanks();
            if (letter() != ';') {
                throw new Fault(1, pos);
            }
            pos++;
        }
    }

    // ---- one stroke

    private boolean isSquare(int x, int y) {
        return y >= 0 && y < map.length && x >= 0 && x < map[0].length();
    }

    private boolean isFree(int x, int y) {
        return isSquare(x, y) && map[y].charAt(x) != '#';
    }

    private static int turnOf(int stroke) {
        return stroke == 0 ? 1 : stroke == 1 ? -1 : 0;
    }

    private static int pushOf(int stroke) {
        return stroke <= 1 ? 1 : stroke == 2 ? -1 : 0;
    }

    private int turn(int a, int b, int c) {
        return (front * turnOf(a) + 2 * behind * turnOf(b) + c * turnOf(a)) / t;
    }

    private int push(int a, int b, int c) {
        int push = (front * pushOf(a) + behind * pushOf(b) + c * pushOf(a)) / p;
        return push > 2 ? 2 : push < -2 ? -2 : push;
    }

    private int[] driven(int x, int y, int way) {
        int nx = x + WAYS[way][0];
        int ny = y + WAYS[way][1];
        return isFree(nx, ny) ? new int[] {nx, ny} : new int[] {x, y};
    }

    /** A stroke with the streams, not the wind. */
    private At calm(At s, int a, int b, int c) {
        int d = ((s.d + turn(a, b, c)) % 8 + 8) % 8;
        int[] xy = {s.x, s.y};
        int push = map[s.y].charAt(s.x) == 'o' ? 0 : push(a, b, c);
        for (int i = 0; i < Math.abs(push); i++) {
            xy = driven(xy[0], xy[1], push > 0 ? d : (d + 4) % 8);
        }
        int stream = "nesw".indexOf(map[xy[1]].charAt(xy[0]));
        if (stream >= 0) {
            xy = driven(xy[0], xy[1], 2 * stream);
        }
        return new At(xy[0], xy[1], d, s.count + 1);
    }

    private At blown(At s) {
        int[] xy = driven(s.x, s.y, 2 * wind[0]);
        return new At(xy[0], xy[1], s.d, s.count);
    }

    private At after(At s, int a, int b, int c) {
        At next = calm(s, a, b, c);
        return wind != null && next.count % wind[1] == 0 ? blown(next) : next;
    }

    private At after(At s, int pair) {
        return after(s, pair / 4, pair % 4, 0);
    }

    private boolean there(At s) {
        return goal != null && s.x == goal[0] && s.y == goal[1] && (goal[2] == 8 || s.d == goal[2]);
    }

    private static int placeOf(At s) {
        return 10 * s.x + s.y;
    }

    // ---- the calls

    int feed(int letter) {
        if (letter < 0 || letter > 255) {
            return OUTSIDE;
        }
        if (text.length() == 250) {
            return FULL;
        }
        text += (char) letter;
        return text.length();
    }

    int fault() {
        return faultAt;
    }

    int told(int what) {
        if (what < 0 || what > 17) {
            return OUTSIDE;
        }
        int[] all = {map.length == 0 ? 0 : map[0].length(), map.length, front, behind, t, p, text.length(), placeOf(at),
            at.d, at.count, goal == null ? NONE : 10 * goal[0] + goal[1], goal == null ? NONE : goal[2],
            wind == null ? NONE : wind[0], wind == null ? 0 : wind[1], there(at) ? 1 : 0, line.size(), book.size(),
            past.size()};
        return all[what];
    }

    int square(int x, int y) {
        return isSquare(x, y) ? ".#onesw".indexOf(map[y].charAt(x)) : UNKNOWN;
    }

    int habit(int who, int stroke) {
        if (who < 0 || who > 1 || stroke < 0 || stroke > 3) {
            return OUTSIDE;
        }
        return "lrbh".indexOf(habits[who].charAt(stroke));
    }

    private void paddle(int pair) {
        past.add(at);
        if (past.size() > 50) {
            past.remove(0);
        }
        at = after(at, pair);
    }

    int stroke(int a, int b) {
        if (a < 0 || a > 3 || b < 0 || b > 3) {
            return OUTSIDE;
        }
        if (map.length == 0) {
            return NOT;
        }
        paddle(4 * a + b);
        return placeOf(at);
    }

    int would(int a, int b, int what) {
        if (a < 0 || a > 3 || b < 0 || b > 3 || what < 0 || what > 3) {
            return OUTSIDE;
        }
        if (map.length == 0) {
            return NOT;
        }
        At next = after(at, a, b, 0);
        return new int[] {placeOf(next), next.d, turn(a, b, 0), push(a, b, 0)}[what];
    }

    int back(int n) {
        if (n < 1 || n > 50) {
            return OUTSIDE;
        }
        if (past.size() < n) {
            return NOT;
        }
        for (int i = 0; i < n; i++) {
            at = past.remove(past.size() - 1);
        }
        return at.count;
    }

    int set(int x, int y, int d) {
        if (!isSquare(x, y)) {
            return UNKNOWN;
        }
        if (d < 0 || d > 7) {
            return OUTSIDE;
        }
        if (!isFree(x, y)) {
            return NOT;
        }
        int was = placeOf(at);
        at = new At(x, y, d, at.count);
        return was;
    }

    int drift(int n) {
        if (n < 1 || n > 99) {
            return OUTSIDE;
        }
        if (map.length == 0) {
            return NOT;
        }
        for (int i = 0; i < n; i++) {
            seed = (seed * 1103515245 + 12345) % 2147483648L;
            paddle((int) (seed / 65536 % 16));
        }
        return placeOf(at);
    }

    /** What of a state counts for what comes: its time to the wind, not all its strokes. */
    private List<Integer> key(At s) {
        return List.of(s.x, s.y, s.d, wind == null ? 0 : s.count % wind[1]);
    }

    /** States stroke by stroke, each with the least of the rows of strokes that lead there; null: it never comes. */
    private List<Integer> shortest(boolean alone, int c) {
        if (goal == null) {
            return null;
        }
        if (there(at)) {
            return List.of();
        }
        Map<List<Integer>, At> states = new HashMap<>(Map.of(key(at), at));
        Map<List<Integer>, List<Integer>> rows = new HashMap<>();
        rows.put(key(at), List.of());
        for (int n = 1; n <= 60; n++) {
            Map<List<Integer>, At> next = new HashMap<>();
            Map<List<Integer>, List<Integer>> nextRows = new HashMap<>();
            List<Integer> found = null;
            for (Map.Entry<List<Integer>, At> e : states.entrySet()) {
                for (int pair = 0; pair < 16; pair++) {
                    if (alone && pair % 4 != 3) {
                        continue;
                    }
                    At to = after(e.getValue(), pair / 4, pair % 4, c);
                    List<Integer> row = new ArrayList<>(rows.get(e.getKey()));
                    row.add(pair);
                    List<Integer> had = nextRows.get(key(to));
                    if (had == null || less(row, had)) {
                        nextRows.put(key(to), row);
                    }
                    next.put(key(to), to);
                    if (there(to) && (found == null || less(row, found))) {
                        found = row;
                    }
                }
            }
            if (found != null) {
                return found;
            }
            states = next;
            rows = nextRows;
        }
        return null;
    }

    private static boolean less(List<Integer> a, List<Integer> b) {
        for (int i = 0; i < a.size(); i++) {
            if (!a.get(i).equals(b.get(i))) {
                return a.get(i) < b.get(i);
            }
        }
        return false;
    }

    private static int told(List<Integer> row, int i) {
        return row == null ? NONE : i == NONE ? row.size() : i < 0 || i >= row.size() ? NONE : row.get(i);
    }

    int fewest(int i) {
        return map.length == 0 ? NOT : told(shortest(false, 0), i);
    }

    int alone() {
        return map.length == 0 ? NOT : told(shortest(true, 0), NONE);
    }

    int third(int c) {
        return c < 1 || c > 9 ? OUTSIDE : map.length == 0 ? NOT : told(shortest(false, c), NONE);
    }

    /** Stroke by stroke: the fewest calls with which each state is so, with each pair going on. */
    int calls(int pair, int what) {
        if (pair < 0 || pair > 15 || what < 0 || what > 1) {
            return OUTSIDE;
        }
        if (map.length == 0) {
            return NOT;
        }
        int bestCalls = there(at) ? 0 : 999;
        int bestStrokes = 0;
        Map<List<Integer>, At> states = new HashMap<>(Map.of(key(at), at));
        Map<List<Integer>, int[]> made = new HashMap<>();
        int[] none = new int[16];
        Arrays.fill(none, 999);
        none[pair] = 0;
        made.put(key(at), none);
        for (int n = 1; n <= 60; n++) {
            Map<List<Integer>, At> next = new HashMap<>();
            Map<List<Integer>, int[]> nextMade = new HashMap<>();
            for (Map.Entry<List<Integer>, At> e : states.entrySet()) {
                int[] had = made.get(e.getKey());
                for (int now = 0; now < 16; now++) {
                    int least = had[now];
                    for (int other = 0; other < 16; other++) {
                        least = other == now ? least : Math.min(least, had[other] + 1);
                    }
                    At to = after(e.getValue(), now);
                    next.put(key(to), to);
                    int[] there = nextMade.computeIfAbsent(key(to), k -> {
                        int[] far = new int[16];
                        Arrays.fill(far, 999);
                        return far;
                    });
                    there[now] = Math.min(there[now], least);
                    if (there(to) && least < bestCalls) {
                        bestCalls = least;
                        bestStrokes = n;
                    }
                }
            }
            states = next;
            made = nextMade;
        }
        return bestCalls >= 999 ? NONE : what == 0 ? bestCalls : bestStrokes;
    }

    private int behindBoth(int pair) {
        return 4 * habit(0, pair % 4) + habit(1, pair / 4);
    }

    int mute(int pair, int n, int what) {
        if (pair < 0 || pair > 15 || n < 0 || n > 99 || what < 0 || what > 2) {
            return OUTSIDE;
        }
        if (map.length == 0) {
            return NOT;
        }
        At s = at;
        int now = pair;
        for (int i = 0; i < n; i++) {
            s = after(s, now);
            now = behindBoth(now);
        }
        return what == 0 ? placeOf(s) : what == 1 ? s.d : now;
    }

    int round(int pair, int what) {
        if (pair < 0 || pair > 15 || what < 0 || what > 1) {
            return OUTSIDE;
        }
        if (map.length == 0) {
            return NOT;
        }
        Map<List<Integer>, Integer> seen = new HashMap<>();
        At s = at;
        int now = pair;
        for (int n = 0; ; n++) {
            List<Integer> all = new ArrayList<>(key(s));
            all.add(now);
            Integer first = seen.put(all, n);
            if (first != null) {
                return what == 0 ? first : n - first;
            }
            s = after(s, now);
            now = behindBoth(now);
        }
    }

    int off(int k, int n, int what) {
        if (k < 1 || k > 99 || n < 1 || n > 99 || what < 0 || what > 1) {
            return OUTSIDE;
        }
        int x = 0;
        int y = 0;
        int d = 0;
        int side = 0;
        int since = 0;
        for (int i = 0; i < n; i++) {
            if (since == k) {
                side = 1 - side;
                since = 0;
            }
            since++;
            d = ((d + turn(side, side, 0)) % 8 + 8) % 8;
            x += WAYS[d][0] * push(side, side, 0);
            y += WAYS[d][1] * push(side, side, 0);
        }
        return what == 0 ? x : -y;
    }

    int best(int n) {
        if (n < 1 || n > 99) {
            return OUTSIDE;
        }
        List<Integer> all = new ArrayList<>(List.of(1, 2, 3, 4, 5, 6, 7, 8, 9));
        all.sort((k, l) -> {
            int by = Integer.compare(Math.abs(off(k, n, 0)), Math.abs(off(l, n, 0)));
            by = by != 0 ? by : Integer.compare(off(l, n, 1), off(k, n, 1));
            return by != 0 ? by : Integer.compare(k, l);
        });
        return all.get(0);
    }

    private List<Integer> stillFrom(At s, int many) {
        if (many == 0) {
            return s.x == at.x && s.y == at.y && s.d == at.d ? new ArrayList<>() : null;
        }
        for (int pair = 0; pair < 16; pair++) {
            List<Integer> rest = stillFrom(after(s, pair), many - 1);
            if (rest != null) {
                rest.add(0, pair);
                return rest;
            }
        }
        return null;
    }

    int still(int i) {
        if (map.length == 0) {
            return NOT;
        }
        for (int many = 1; many <= 3; many++) {
            List<Integer> row = stillFrom(at, many);
            if (row != null) {
                return told(row, i);
            }
        }
        return NONE;
    }

    int surely(int what) {
        if (what < 0 || what > 1) {
            return OUTSIDE;
        }
        if (map.length == 0) {
            return NOT;
        }
        if (wind == null || goal == null) {
            return NONE;
        }
        Map<List<Integer>, Boolean> known = new HashMap<>();
        for (int n = 0; n <= 30; n++) {
            if (wins(at, n, known)) {
                if (what == 0 || n == 0) {
                    return what == 0 ? n : NONE;
                }
                for (int pair = 0; ; pair++) {
                    At calm = calm(at, pair / 4, pair % 4, 0);
                    if (wins(calm, n - 1, known) && wins(blown(calm), n - 1, known)) {
                        return pair;
                    }
                }
            }
        }
        return NONE;
    }

    private boolean wins(At s, int n, Map<List<Integer>, Boolean> known) {
        if (there(s)) {
            return true;
        }
        if (n == 0) {
            return false;
        }
        List<Integer> key = List.of(s.x, s.y, s.d, n);
        Boolean had = known.get(key);
        if (had != null) {
            return had;
        }
        boolean won = false;
        for (int pair = 0; pair < 16 && !won; pair++) {
            At calm = calm(s, pair / 4, pair % 4, 0);
            won = wins(calm, n - 1, known) && wins(blown(calm), n - 1, known);
        }
        known.put(key, won);
        return won;
    }

    private static final String[] RULES = {"llll", "rrrr", "lrbh", "rlbh"};

    int rules(int what) {
        if (what < 0 || what > 2) {
            return OUTSIDE;
        }
        if (map.length == 0) {
            return NOT;
        }
        for (int n = 0; n <= 60; n++) {
            for (int first = 0; first < 4; first++) {
                for (int second = 0; second < 4; second++) {
                    At s = at;
                    int a = 0;
                    int b = 0;
                    for (int i = 0; i < n; i++) {
                        s = after(s, 4 * a + b);
                        int was = a;
                        a = "lrbh".indexOf(RULES[first].charAt(b));
                        b = "lrbh".indexOf(RULES[second].charAt(was));
                    }
                    if (there(s)) {
                        return what == 0 ? n : what == 1 ? first : second;
                    }
                }
            }
        }
        return NONE;
    }

    int line(int x, int y) {
        if (!isSquare(x, y)) {
            return UNKNOWN;
        }
        if (line.size() == 4) {
            return FULL;
        }
        line.add(new int[] {x, y});
        return line.size();
    }

    /** All rows that fit, in order. */
    private List<List<Integer>> rows() {
        List<List<Integer>> found = new ArrayList<>();
        rowsFrom(at, new ArrayList<>(), found);
        return found;
    }

    private void rowsFrom(At s, List<Integer> row, List<List<Integer>> found) {
        int k = row.size();
        if (k > 0 && (s.x != line.get(k - 1)[0] || s.y != line.get(k - 1)[1])) {
            return;
        }
        if (k == line.size()) {
            found.add(new ArrayList<>(row));
            return;
        }
        for (int pair = 0; pair < 16; pair++) {
            row.add(pair);
            rowsFrom(after(s, pair), row, found);
            row.remove(k);
        }
    }

    int fits(int i) {
        if (map.length == 0) {
            return NOT;
        }
        List<List<Integer>> rows = rows();
        return i == NONE ? rows.size() : rows.isEmpty() ? NONE : told(rows.get(0), i);
    }

    int gave(int who) {
        if (who < 0 || who > 1) {
            return OUTSIDE;
        }
        if (map.length == 0) {
            return NOT;
        }
        int set = 0;
        List<List<Integer>> rows = rows();
        for (int k = 0; k < line.size() && !rows.isEmpty(); k++) {
            boolean held = true;
            for (List<Integer> row : rows) {
                held &= (who == 0 ? row.get(k) / 4 : row.get(k) % 4) == 3;
            }
            set += held ? 1 << k : 0;
        }
        return set;
    }

    int write(int pair, int x, int y) {
        if (!isSquare(x, y)) {
            return UNKNOWN;
        }
        if (pair < 0 || pair > 15) {
            return OUTSIDE;
        }
        if (book.size() == 20) {
            return FULL;
        }
        book.add(new int[] {pair, x, y});
        return book.size();
    }

    int judge() {
        if (map.length == 0) {
            return NOT;
        }
        At s = at;
        for (int i = 0; i < book.size(); i++) {
            s = after(s, book.get(i)[0]);
            if (s.x != book.get(i)[1] || s.y != book.get(i)[2]) {
                return i;
            }
        }
        return NONE;
    }

    int tear() {
        int had = line.size() + book.size();
        line.clear();
        book.clear();
        return had;
    }

    int seed(int v) {
        if (v < 0) {
            return OUTSIDE;
        }
        int was = (int) seed;
        seed = v;
        return was;
    }

    int keep(int i) {
        if (i < 0 || i > 1) {
            return UNKNOWN;
        }
        images[i] = new Kept(at, seed);
        past.clear();
        return 1;
    }

    int goBack(int i) {
        if (i < 0 || i > 1) {
            return UNKNOWN;
        }
        if (images[i] == null) {
            return NOT;
        }
        at = images[i].at();
        seed = images[i].seed();
        past.clear();
        return 1;
    }
}
