import java.io.IOException;
import java.lang.reflect.Method;
import java.lang.reflect.Modifier;
import java.nio.file.Files;
import java.nio.file.Path;
import java.util.HashMap;
import java.util.HashSet;
import java.util.Map;
import java.util.Set;
import java.util.regex.Matcher;
import java.util.regex.Pattern;

/**
 * Runs the example of README.md, all its blocks on one object, and compares each answer with the one
 * told behind the call, so that the example can't say what the class does not answer.
 */
public final class ReadmeTest {
    private static final String MAKING = "ExamScales x = new ExamScales();";
    private static final Pattern CALL = Pattern.compile(
            "(?:(?:int|long) (\\w+) = )?x\\.(\\w+)\\(([^()]*)\\);\\s+// (-?\\w+)(: .*)?");
    private static final Due due = new Due();
    private static final Map<String, Long> names = new HashMap<>();
    private static final Set<String> called = new HashSet<>();
    private static ExamScales x = null;

    public static void main(String[] args) throws IOException, ReflectiveOperationException {
        constants();
        boolean inside = false;
        int calls = 0;
        for (String line : Files.readAllLines(Path.of("README.md"))) {
            if (line.startsWith("```")) {
                inside = line.equals("```java");
            } else if (inside) {
                calls += follow(line.strip());
            }
        }
        due.isTrue(calls + " calls are 512 at most, as of one object", calls <= 512);
        allCalled();
        due.end();
    }

    private static void constants() {
        names.put("NONE", (long) ExamScales.NONE);
        names.put("BAD", (long) ExamScales.BAD);
        names.put("STATE", (long) ExamScales.STATE);
        names.put("FULL", (long) ExamScales.FULL);
        names.put("NO", ExamScales.NO);
    }

    /** Follows one line of the example: how many calls it has. */
    private static int follow(String line) throws ReflectiveOperationException {
        if (line.isEmpty() || line.startsWith("//")) {
            return 0;
        }
        if (line.equals(MAKING)) {
            due.isTrue("README.md makes one object", x == null);
            x = new ExamScales();
            return 0;
        }
        Matcher parts = CALL.matcher(line);
        boolean isCall = x != null && parts.matches();
        due.isTrue("README.md has a line that is no call with its answer: " + line, isCall);
        if (isCall) {
            call(line, parts);
        }
        return isCall ? 1 : 0;
    }

    private static void call(String line, Matcher parts) throws ReflectiveOperationException {
        Method method = methodOf(parts.group(2));
        String[] texts = parts.group(3).isEmpty() ? new String[0] : parts.group(3).split(", ");
        boolean fits = method != null && method.getParameterCount() == texts.length;
        due.isTrue("README.md calls what is not of the face: " + line, fits);
        if (!fits) {
            return;
        }
        Object[] values = new Object[texts.length];
        for (int i = 0; i < texts.length; i++) {
            long value = valueOf(texts[i]);
            values[i] = method.getParameterTypes()[i] == int.class ? (Object) Math.toIntExact(value) : (Object) value;
        }
        long got = ((Number) method.invoke(x, values)).longValue();
        due.is("README.md: " + line, got, valueOf(parts.group(4)));
        called.add(parts.group(2));
        if (parts.group(1) != null) {
            names.put(parts.group(1), got);
        }
    }

    private static Method methodOf(String name) {
        for (Method method : ExamScales.class.getDeclaredMethods()) {
            if (method.getName().equals(name) && Modifier.isPublic(method.getModifiers())) {
                return method;
            }
        }
        return null;
    }

    private static long valueOf(String text) {
        Long named = names.get(text);
        if (named != null) {
            return named;
        }
        String digits = text.replace("_", "");
        if (digits.startsWith("0b")) {
            return Long.parseLong(digits.substring(2), 2);
        }
        if (digits.startsWith("0x") && digits.endsWith("L")) {
            return Long.parseUnsignedLong(digits.substring(2, digits.length() - 1), 16);
        }
        return Long.parseLong(digits);
    }

    private static void allCalled() {
        for (Method method : ExamScales.class.getDeclaredMethods()) {
            if (Modifier.isPublic(method.getModifiers())) {
                due.isTrue("README.md shows " + method.getName(), called.contains(method.getName()));
            }
        }
    }
}
