import java.lang.reflect.Method;
import java.nio.file.Files;
import java.nio.file.Path;
import java.util.regex.Matcher;
import java.util.regex.Pattern;

/** The example of README.md, line by line: each call answers what stands behind it. */
public final class ReadmeTests {
    private static final Pattern TOLD = Pattern.compile("tell\\(canoe, \"(.*)\"\\);");
    private static final Pattern CALL = Pattern.compile("canoe\\.(\\w+)\\((.*)\\);\\s*// (-?\\w+)(:.*)?");

    public static void main(String[] args) throws Exception {
        CanoeSides canoe = new CanoeSides();
        int calls = 0;
        for (String line : Files.readAllLines(Path.of("README.md"))) {
            Matcher told = TOLD.matcher(line);
            Matcher call = CALL.matcher(line);
            if (told.matches()) {
                Due.feed(canoe, told.group(1));
            } else if (call.matches()) {
                Due.due(line, ask(canoe, call.group(1), call.group(2)), number(call.group(3)));
                calls++;
            }
        }
        Due.due("the example has calls", calls > 30 ? 1 : 0, 1);
        for (Method method : FaceEdges.methods()) {
            Due.due("README.md tells of " + method.getName(),
                Files.readString(Path.of("README.md")).contains(method.getName() + "(") ? 1 : 0, 1);
        }
        Due.end("ReadmeTests");
    }

    private static int number(String text) throws Exception {
        return Character.isUpperCase(text.charAt(0)) ? CanoeSides.class.getField(text).getInt(null) : Integer.parseInt(text);
    }

    private static int ask(CanoeSides canoe, String name, String list) throws Exception {
        String[] words = list.isEmpty() ? new String[0] : list.split(", ");
        Object[] numbers = new Object[words.length];
        Class<?>[] ints = new Class<?>[words.length];
        for (int i = 0; i < words.length; i++) {
            numbers[i] = number(words[i]);
            ints[i] = int.class;
        }
        return (Integer) CanoeSides.class.getMethod(name, ints).invoke(canoe, numbers);
    }
}
