import java.lang.reflect.Constructor;
import java.lang.reflect.Field;
import java.lang.reflect.Method;
import java.lang.reflect.Modifier;
import java.nio.file.Files;
import java.nio.file.Path;
import java.util.Arrays;
import java.util.Set;
import java.util.TreeSet;

/** The public face, and the rules of LANGUAGE.md that can be read off the text. */
public final class FaceTests {
    private static final String[] METHODS = {"feed 1", "river 0", "fault 0", "told 1", "square 2", "habit 2", "stroke 2",
        "would 3", "back 1", "set 3", "drift 1", "fewest 1", "calls 2", "mute 3", "round 2", "off 3", "best 1", "still 1",
        "surely 1", "alone 0", "third 1", "rules 1", "line 2", "fits 1", "gave 1", "write 3", "judge 0", "tear 0", "seed 1",
        "keep 1", "goBack 1"};

    public static void main(String[] args) throws Exception {
        Due.due("NONE", CanoeSides.NONE, -1);
        Due.due("UNKNOWN", CanoeSides.UNKNOWN, -1000000001);
        Due.due("OUTSIDE", CanoeSides.OUTSIDE, -1000000002);
        Due.due("NOT", CanoeSides.NOT, -1000000003);
        Due.due("FULL", CanoeSides.FULL, -1000000004);
        face();
        insides();
        text();
        Due.end("FaceTests");
    }

    private static void holds(String what, boolean so) {
        Due.due(what, so ? 1 : 0, 1);
    }

    private static void face() {
        holds("public and final", Modifier.toString(CanoeSides.class.getModifiers()).equals("public final"));
        Set<String> open = new TreeSet<>();
        for (Method m : CanoeSides.class.getDeclaredMethods()) {
            if (!Modifier.isPrivate(m.getModifiers()) && !m.isSynthetic()) {
                open.add(m.getName() + " " + m.getParameterCount());
                holds(m.getName() + " is of int", m.getReturnType() == int.class && m.getModifiers() == Modifier.PUBLIC);
            }
        }
        holds("methods: " + open, open.equals(new TreeSet<>(Arrays.asList(METHODS))));
        int fields = 0;
        for (Field f : CanoeSides.class.getDeclaredFields()) {
            fields += Modifier.isPrivate(f.getModifiers()) ? 0 : 1;
        }
        Due.due("constants", fields, 5);
        Constructor<?>[] made = CanoeSides.class.getDeclaredConstructors();
        holds("one constructor", made.length == 1 && made[0].getParameterCount() == 0);
    }

    private static void insides() {
        Set<String> names = new TreeSet<>();
        for (String m : METHODS) {
            names.add(m.split(" ")[0]);
        }
        Class<?>[] inside = CanoeSides.class.getDeclaredClasses();
        holds("at most twelve classes", inside.length < 12);
        for (Class<?> c : inside) {
            holds(c + " is static", Modifier.isStatic(c.getModifiers()) && !Modifier.isPublic(c.getModifiers()));
            for (Method m : c.getDeclaredMethods()) {
                holds(c + " has no " + m.getName() + " of the face", !names.contains(m.getName()));
                holds(m + " takes seven at most", m.getParameterCount() <= 7);
            }
            int own = 0;
            for (Field f : c.getDeclaredFields()) {
                own += Modifier.isStatic(f.getModifiers()) ? 0 : 1;
            }
            holds(c + " has at most twenty fields", own <= 20);
        }
    }

    private static void text() throws Exception {
        String text = Files.readString(Path.of("src/main/java/CanoeSides.java"));
        String code = text.replaceAll("/\\*[\\s\\S]*?\\*/", "").replaceAll("//.*", "").replaceAll("\"[^\"]*\"", "\"\"");
        String[] forbidden = {"throw", "throws", "try", "catch", "synchronized", "assert", "instanceof", "package", "float",
            "double", "Thread", "System", "Random", "Exact", "protected", "volatile", "native", "Object", "static \\{"};
        for (String word : forbidden) {
            holds("no " + word, !code.matches("[\\s\\S]*\\b" + word + "[\\s\\S]*") || word.equals("throws"));
        }
        holds("no lambda, no reference", !code.contains("->") && !code.contains("::"));
        holds("one import", text.indexOf("import ") == text.lastIndexOf("import ") && text.startsWith("import java.util.Arrays;"));
        holds("signs of ASCII alone", text.chars().allMatch(c -> c < 128));
    }
}
