import java.nio.file.Files;
import java.nio.file.Path;
import java.util.ArrayList;
import java.util.Arrays;
import java.util.Collections;
import java.util.LinkedHashMap;
import java.util.List;
import java.util.Map;
import java.util.function.Supplier;
import java.util.function.ToIntFunction;

/** Ties the answers that follow to the promise and the sentence of the document that they are for. */
final class Says {
    private static final Path DOC = Path.of("../shared/DOC.md");
    private static final Map<String, String> SECTIONS = new LinkedHashMap<>();
    private static final Map<String, boolean[]> TOLD = new LinkedHashMap<>();

    private Says() {
    }

    /** Reads the document's sections, so that a sentence that does not stand in it is found out. */
    static void readDocument() throws Exception {
        if (!Files.isReadable(DOC)) {
            System.out.println("no " + DOC + ": the sentences are not looked up");
            return;
        }
        for (String section : Files.readString(DOC).split("\n## ")) {
            String title = section.split("[:\n]")[0];
            String text = section.substring(section.indexOf('\n') + 1).replaceAll("\\s+", " ");
            SECTIONS.put(title, text);
            TOLD.put(title, new boolean[text.length()]);
        }
    }

    static void promise(int number, String sentence) {
        says("Promise " + number, sentence);
    }

    static void terms(String sentence) {
        says("Terms", sentence);
    }

    static void says(String section, String sentence) {
        Due.about(section + " '" + sentence + "': ");
        if (SECTIONS.isEmpty()) {
            return;
        }
        String text = SECTIONS.getOrDefault(section, "");
        int at = text.indexOf(sentence);
        Due.due("stands in the document", at >= 0 ? 1 : 0, 1);
        for (; at >= 0; at = text.indexOf(sentence, at + 1)) {
            Arrays.fill(TOLD.get(section), at, at + sentence.length(), true);
        }
    }

    /** Each word of a section must have been told by a test, or stand among those that bound nothing. */
    static void allTold(String section, String... boundNothing) {
        Due.about(section + ": ");
        String text = SECTIONS.getOrDefault(section, "");
        for (String part : boundNothing) {
            int at = text.indexOf(part);
            Due.due("'" + part + "' stands in the document", at >= 0 || SECTIONS.isEmpty() ? 1 : 0, 1);
            for (; at >= 0; at = text.indexOf(part, at + 1)) {
                Arrays.fill(TOLD.get(section), at, at + part.length(), true);
            }
        }
        int from = text.indexOf("`: ") >= 0 ? text.indexOf("`: ") + 3 : 0;
        StringBuilder untold = new StringBuilder();
        for (int i = from; i <= text.length(); i++) {
            if (i < text.length() && !TOLD.get(section)[i]) {
                untold.append(text.charAt(i));
                continue;
            }
            boolean words = untold.chars().anyMatch(Character::isLetterOrDigit);
            Due.due("'" + untold + "' has a test", words ? 0 : 1, 1);
            untold.setLength(0);
        }
    }

    static boolean knowsDocument() {
        return !SECTIONS.isEmpty();
    }

    /** A refused call, on one of two objects made alike: nothing that the other one tells is otherwise. */
    static void refused(int refusal, String call, Supplier<CanoeSides> make, ToIntFunction<CanoeSides> ask) {
        CanoeSides asked = make.get();
        Due.due(call, ask.applyAsInt(asked), refusal);
        same(call + ": what is refused changes nothing", asked, make.get());
    }

    static void same(String call, CanoeSides one, CanoeSides other) {
        List<Integer> a = whole(one);
        List<Integer> b = whole(other);
        Due.due(call + ", length of all that it tells", a.size(), b.size());
        for (int i = 0; i < Math.min(a.size(), b.size()); i++) {
            Due.due(call + ", the " + i + "th of all that it tells", a.get(i), b.get(i));
        }
    }

    /** All that an object tells, its strokes taken back and its images come back to at last; some 330 calls at most. */
    static List<Integer> whole(CanoeSides x) {
        List<Integer> all = new ArrayList<>();
        for (int what = 0; what <= 17; what++) {
            all.add(x.told(what));
        }
        all.add(x.fault());
        for (int at = 0; at < 48; at++) {
            all.add(x.square(at % 8, at / 8));
        }
        for (int at = 0; at < 8; at++) {
            all.add(x.habit(at / 4, at % 4));
        }
        Collections.addAll(all, x.fits(-1), x.fits(0), x.fits(1), x.fits(2), x.fits(3), x.gave(0), x.gave(1), x.judge());
        Collections.addAll(all, x.mute(1, 9, 0), x.mute(1, 9, 1), x.fewest(-1), x.third(5), x.surely(0), seedOf(x));
        for (int many = x.told(17); many > 0; many--) {
            Collections.addAll(all, x.back(1), x.told(7), x.told(8));
        }
        for (int i = 0; i < 2; i++) {
            Collections.addAll(all, x.goBack(i), x.told(7), x.told(8), x.told(9), seedOf(x));
        }
        return all;
    }

    private static int seedOf(CanoeSides x) {
        int seed = x.seed(0);
        x.seed(seed);
        return seed;
    }
}
