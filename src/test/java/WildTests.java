import java.lang.reflect.Method;
import java.lang.reflect.Modifier;

/** Every call with numbers from far off: it answers, and what is refused changes nothing. */
public final class WildTests {
    private static final int[] ODD = {Integer.MIN_VALUE, -1000000001, -65536, -9, -2, -1, 0, 1, 2, 3, 4, 7, 8, 15, 16, 31, 32,
        50, 51, 99, 100, 255, 256, 4096, 1 << 30, Integer.MAX_VALUE};
    private static final String[] TEXTS = {"", "r1 1.;", "r5 3..... .#o#. .n.e.;b0 0 2;g4 2 4;w2 2;p2 2 4 4;hhhhhrlbh;",
        "r8 6#" + "o.n.e.s.w.".repeat(4) + "......#;p9 9 1 1;g7 4 3;w1 9;"};

    public static void main(String[] args) throws Exception {
        for (String text : TEXTS) {
            for (Method m : CanoeSides.class.getDeclaredMethods()) {
                if (Modifier.isPublic(m.getModifiers())) {
                    all(text, m);
                }
            }
        }
        Due.end("WildTests");
    }

    private static void all(String text, Method m) throws Exception {
        int many = m.getParameterCount();
        int rows = (int) Math.pow(ODD.length, many);
        CanoeSides x = Due.on(text);
        int calls = 0;
        for (int row = 0; row < rows; row += many == 3 ? 7 : 1) {
            if (calls++ % 6 == 0) {
                x = Due.on(text);
                x.line(0, 0);
                x.write(15, 0, 0);
                x.drift(3);
            }
            Object[] a = new Object[many];
            String call = m.getName();
            for (int i = 0, left = row; i < many; i++, left /= ODD.length) {
                a[i] = ODD[left % ODD.length];
                call += " " + a[i];
            }
            long before = all(x);
            int answer = 0;
            try {
                answer = (Integer) m.invoke(x, a);
            } catch (java.lang.reflect.InvocationTargetException e) {
                Due.due(call + " threw " + e.getCause() + " on " + text, 1, 0);
            }
            if (answer <= CanoeSides.UNKNOWN && !m.getName().equals("seed")) {
                Due.due(call + " refused on " + text, all(x), before);
            } else {
                Due.due(call, 1, 1);
            }
        }
    }

    private static long all(CanoeSides x) {
        long sum = 0;
        for (int what = 0; what < 18; what++) {
            sum = 31 * sum + x.told(what);
        }
        return sum;
    }
}
