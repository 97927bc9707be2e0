import java.lang.reflect.Method;
import java.nio.charset.StandardCharsets;
import java.nio.file.Files;
import java.nio.file.Path;
import java.util.regex.Matcher;
import java.util.regex.Pattern;

/** Plays the run of calls that README.md shows; each call must answer what stands behind it. */
public final class ReadmeTest {
    private static final Pattern CALL = Pattern.compile("x\\.(\\w+)\\(([^)]*)\\);\\s+// (-?\\d+)(: .+| \"(.{20})\")?");
    private static final String MADE = "EnemyLetters x = new EnemyLetters();";
    private static final int FEWEST = 30;
    private static final int MOST = 512;

    private static int calls = 0;
    private static int wrong = 0;

    public static void main(String[] arguments) throws Exception {
        EnemyLetters x = new EnemyLetters();
        boolean isCode = false;
        int made = 0;
        for (String line : Files.readAllLines(Path.of("README.md"))) {
            if (line.startsWith("```")) {
                isCode = line.equals("```java");
            } else if (isCode && line.equals(MADE)) {
                made++;
            } else if (isCode) {
                play(x, line);
            }
        }
        check(made == 1, "one object is made, not " + made);
        check(calls >= FEWEST && calls <= MOST, "a run of " + calls + " calls");
        System.out.println(calls + " calls of README.md, " + wrong + " not as due");
        if (wrong != 0) {
            System.exit(1);
        }
    }

    private static void play(EnemyLetters x, String line) throws Exception {
        Matcher call = CALL.matcher(line);
        if (!call.matches()) {
            check(false, "not a call with its answer: " + line);
            return;
        }
        calls++;
        String[] told = call.group(2).isEmpty() ? new String[0] : call.group(2).split(", ");
        Method method = find(call.group(1), told.length);
        if (method == null) {
            check(false, "no such call: " + line);
            return;
        }
        long got = ((Number) method.invoke(x, values(method, told))).longValue();
        check(got == Long.parseLong(call.group(3)), line + " answered " + got);
        if (call.group(5) != null) {
            check(text(told).equals(call.group(5)), line + " feeds \"" + text(told) + "\"");
        }
    }

    private static Method find(String name, int arguments) {
        for (Method method : EnemyLetters.class.getMethods()) {
            if (method.getName().equals(name) && method.getParameterCount() == arguments) {
                return method;
            }
        }
        return null;
    }

    private static Object[] values(Method method, String[] told) {
        Object[] values = new Object[told.length];
        for (int i = 0; i < told.length; i++) {
            long value = Long.decode(told[i]);
            values[i] = method.getParameterTypes()[i] == long.class ? (Object) value : (Object) (int) value;
        }
        return values;
    }

    private static String text(String[] told) {
        byte[] bytes = new byte[4 * told.length];
        for (int i = 0; i < bytes.length; i++) {
            bytes[i] = (byte) (Long.decode(told[i / 4]) >> (24 - 8 * (i % 4)));
        }
        return new String(bytes, StandardCharsets.ISO_8859_1);
    }

    private static void check(boolean isSo, String what) {
        if (!isSo) {
            wrong++;
            System.out.println(what);
        }
    }
}
