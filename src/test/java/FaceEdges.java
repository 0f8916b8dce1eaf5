import java.lang.reflect.Field;
import java.lang.reflect.Method;
import java.lang.reflect.Modifier;
import java.nio.file.Files;
import java.nio.file.Path;
import java.util.Arrays;
import java.util.List;

/** The public face as the document writes it, line by line, and what the interface says ahead of its calls. */
final class FaceEdges {
    private static final Path CLASS = Path.of("src/main/java/CanoeSides.java");
    private static final String[][] PARTS = {
        {"the river", "feed(int letter)", "river()", "fault()", "told(int what)", "square(int x, int y)", "habit(int who, int stroke)"},
        {"strokes", "stroke(int a, int b)", "would(int a, int b, int what)", "back(int n)", "set(int x, int y, int d)", "drift(int n)"},
        {"ways", "fewest(int i)", "calls(int pair, int what)", "mute(int pair, int n, int what)", "round(int pair, int what)",
            "off(int k, int n, int what)", "best(int n)", "still(int i)", "surely(int what)", "alone()", "third(int c)",
            "rules(int what)"},
        {"lines", "line(int x, int y)", "fits(int i)", "gave(int who)", "write(int pair, int x, int y)", "judge()", "tear()"},
        {"images", "seed(int v)", "keep(int i)", "goBack(int i)"}};

    private FaceEdges() {
    }

    static void all() throws Exception {
        String code = Files.readString(CLASS);
        int methods = 0;
        Says.says("The public face", "public final class CanoeSides {");
        holds("the class", code.contains("\npublic final class CanoeSides {\n"));
        Says.says("The public face", "public static final int");
        for (String name : new String[] {"NONE", "UNKNOWN", "OUTSIDE", "NOT", "FULL"}) {
            Field constant = CanoeSides.class.getField(name);
            holds(name, Modifier.toString(constant.getModifiers()).equals("public static final") && constant.getType() == int.class);
        }
        Says.says("The public face", "public CanoeSides();");
        holds("the constructor", Modifier.isPublic(CanoeSides.class.getConstructor().getModifiers()));
        int at = code.indexOf("    public CanoeSides() {");
        for (String[] part : PARTS) {
            at = ahead(code, at, part);
            for (int i = 1; i < part.length; i++) {
                Says.says("The public face", "public int " + part[i] + ";");
                int next = code.indexOf("    public int " + part[i] + " {", at);
                holds("stands behind the one before", at >= 0 && next > at);
                at = next;
                method(part[i]);
                methods++;
            }
        }
        Says.says("The public face", "}");
        Due.due("public methods", methods().size(), methods);
    }

    static List<Method> methods() {
        return Arrays.stream(CanoeSides.class.getDeclaredMethods()).filter(m -> Modifier.isPublic(m.getModifiers())).toList();
    }

    private static void holds(String what, boolean so) {
        Due.due(what, so ? 1 : 0, 1);
    }

    private static String name(String method) {
        return method.substring(0, method.indexOf('('));
    }

    /** Where the part's own line stands in the class: right ahead of the first of its calls. */
    private static int ahead(String code, int from, String[] part) {
        StringBuilder sentence = new StringBuilder("Ahead of the calls ");
        for (int i = 1; i < part.length; i++) {
            sentence.append(i > 1 ? ", " : "").append("`").append(name(part[i])).append("`");
        }
        Says.terms(sentence + " the interface says: ---- " + part[0] + ".");
        int at = code.indexOf("    // ---- " + part[0] + "\n\n    public int " + part[1] + " {\n", Math.max(0, from));
        holds("stands in the class", at >= 0);
        return at;
    }

    private static void method(String signature) throws Exception {
        int many = signature.endsWith("()") ? 0 : signature.split(",").length;
        Class<?>[] ints = new Class<?>[many];
        Arrays.fill(ints, int.class);
        Method method = CanoeSides.class.getMethod(name(signature), ints);
        holds("is public, answers an int, throws nothing", method.getModifiers() == Modifier.PUBLIC
            && method.getReturnType() == int.class && method.getExceptionTypes().length == 0);
    }
}
