import java.io.IOException;
import java.lang.reflect.Method;
import java.nio.file.Files;
import java.nio.file.Path;
import java.util.Arrays;
import java.util.HashMap;
import java.util.Map;
import java.util.Set;
import java.util.TreeSet;
import java.util.regex.Matcher;
import java.util.regex.Pattern;

/** Makes the calls that README.md shows, on one object: each must answer what stands behind it. */
public final class ReadmeTest {
    private static final Check check = new Check("ReadmeTest");
    private static final String MADE = "SmallFloats x = new SmallFloats();";
    private static final Pattern CALL =
        Pattern.compile("(?:(int|long) (\\w+) = )?x\\.(\\w+)\\(([^)]*)\\); +// (-?\\w+)(?:,? .*)?");

    private static final Map<String, Method> methods = new HashMap<>();
    private static final Map<String, Long> known = new HashMap<>();
    private static final Set<String> used = new TreeSet<>();

    public static void main(String[] args) throws IOException, ReflectiveOperationException {
        for (Method m : SmallFloats.class.getMethods()) {
            if (m.getDeclaringClass() == SmallFloats.class) {
                methods.put(m.getName(), m);
            }
        }
        for (String name : new String[] {"BAD", "STATE", "FULL", "INVALID", "NONE", "NO"}) {
            known.put(name, SmallFloats.class.getField(name).getLong(null));
        }
        SmallFloats x = null;
        boolean inside = false;
        for (String line : Files.readAllLines(Path.of("README.md"))) {
            if (line.startsWith("```")) {
                inside = line.equals("```java");
            } else if (inside && line.equals(MADE)) {
                x = new SmallFloats();
            } else if (inside) {
                call(x, line);
            }
        }
        check.same("the calls that README.md shows", new TreeSet<>(methods.keySet()).toString(), used.toString());
        check.end();
    }

    private static void call(SmallFloats x, String line) throws ReflectiveOperationException {
        Matcher parts = CALL.matcher(line);
        if (x == null || !parts.matches() || !methods.containsKey(parts.group(3))) {
            check.same("a line of README.md", "a call with its answer", line);
            return;
        }
        Method method = methods.get(parts.group(3));
        used.add(method.getName());
        Class<?>[] types = method.getParameterTypes();
        String[] words = parts.group(4).isEmpty() ? new String[0] : parts.group(4).split(", ");
        if (words.length != types.length) {
            check.same(line, Arrays.toString(types), Arrays.toString(words));
            return;
        }
        Object[] values = new Object[types.length];
        for (int i = 0; i < values.length; i++) {
            values[i] = value(types[i], words[i]);
        }
        long answer = ((Number) method.invoke(x, values)).longValue();
        check.due(line, number(parts.group(5)), answer);
        if (parts.group(2) != null) {
            known.put(parts.group(2), answer);
        }
    }

    private static Object value(Class<?> type, String word) {
        if (type == boolean.class) {
            return Boolean.valueOf(word);
        }
        return type == long.class ? (Object) number(word) : (Object) (int) number(word);
    }

    private static long number(String word) {
        return known.containsKey(word) ? known.get(word) : Long.parseLong(word);
    }
}
