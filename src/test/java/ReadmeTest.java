import java.io.IOException;
import java.lang.reflect.InvocationTargetException;
import java.lang.reflect.Method;
import java.lang.reflect.Modifier;
import java.nio.file.Files;
import java.nio.file.Path;
import java.util.List;
import java.util.Map;
import java.util.regex.Matcher;
import java.util.regex.Pattern;

/** README.md: its example answers what stands behind each of its calls, and its table has every call. */
public final class ReadmeTest {
    private static final Pattern CALL = Pattern.compile("rows\\.(\\w+)\\((.*)\\); *// ([\\w-]+)(: .*)?");
    private static final Map<String, String> NAMED = Map.of("UNKNOWN", "-1000001", "OUTSIDE", "-1000002",
            "STATE", "-1000003", "ROOM", "-1000004", "NONE", "-1000009");
    private static final Checks checks = new Checks();

    public static void main(String[] args) throws IOException, IllegalAccessException {
        List<String> lines = Files.readAllLines(Path.of("README.md"));
        example(lines.subList(lines.indexOf("```java") + 1, lines.indexOf("```")));
        table(lines.stream().filter(line -> line.startsWith("| `")).toList());
        tests(lines);
        checks.end();
    }

    private static void example(List<String> lines) throws IllegalAccessException {
        WordRows rows = new WordRows();
        int calls = 0;
        for (String line : lines) {
            if (line.startsWith("rows.")) {
                Matcher call = CALL.matcher(line);
                checks.isTrue("a call and its answer: " + line, call.matches());
                String got = answer(rows, call.group(1), call.group(2));
                String want = NAMED.getOrDefault(call.group(3), call.group(3));
                checks.isTrue(line + " answered " + got, got.equals(want));
                calls++;
            }
        }
        checks.isTrue("the example has calls", calls > 0);
    }

    private static String answer(WordRows rows, String name, String arguments) throws IllegalAccessException {
        Method method = methodOf(name);
        String[] texts = arguments.isEmpty() ? new String[0] : arguments.split(", ");
        Class<?>[] types = method.getParameterTypes();
        checks.isTrue(name + " has as many arguments", texts.length == types.length);
        Object[] values = new Object[types.length];
        for (int i = 0; i < types.length; i++) {
            values[i] = value(types[i], texts[i]);
        }
        try {
            return method.invoke(rows, values).toString();
        } catch (InvocationTargetException e) {
            return e.getCause().getClass().getSimpleName();
        }
    }

    private static Method methodOf(String name) {
        for (Method method : WordRows.class.getDeclaredMethods()) {
            if (Modifier.isPublic(method.getModifiers()) && method.getName().equals(name)) {
                return method;
            }
        }
        throw new IllegalArgumentException("there is no call " + name);
    }

    private static Object value(Class<?> type, String text) {
        if (type == boolean.class) {
            return text.equals("true");
        }
        long sum = sumOfProducts(text);
        return type == long.class ? (Object) sum : (Object) (int) sum;
    }

    /** So the example may show how the signs of a pattern are put together. */
    private static long sumOfProducts(String text) {
        long sum = 0;
        for (String part : text.split(" \\+ ")) {
            long product = 1;
            for (String factor : part.split(" \\* ")) {
                product *= Long.parseLong(factor);
            }
            sum += product;
        }
        return sum;
    }

    private static void table(List<String> lines) {
        String all = String.join("\n", lines);
        for (Method method : WordRows.class.getDeclaredMethods()) {
            if (Modifier.isPublic(method.getModifiers())) {
                checks.isTrue("the table has " + method.getName(), all.contains("`" + method.getName() + "`"));
            }
        }
    }

    private static void tests(List<String> lines) throws IOException {
        String all = String.join("\n", lines);
        try (var files = Files.list(Path.of("src/test/java"))) {
            files.map(file -> file.getFileName().toString().replace(".java", "")).filter(name -> name.endsWith("Test"))
                    .forEach(name -> checks.isTrue("README.md says what " + name + " tests",
                            all.contains("`" + name + "`")));
        }
    }
}
