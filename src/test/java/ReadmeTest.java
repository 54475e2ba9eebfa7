import java.lang.reflect.Method;
import java.nio.file.Files;
import java.nio.file.Path;
import java.util.Set;
import java.util.TreeSet;
import java.util.regex.Matcher;
import java.util.regex.Pattern;

/** README.md tells the use as it is: each call of its example answers what stands behind it, and no call is left out. */
public final class ReadmeTest {
    private static final Due DUE = new Due("ReadmeTest");
    private static final Pattern CALL = Pattern.compile("coder\\.(\\w+)\\((.*?)\\);\\s+// (-?\\d+): .*");

    public static void main(String[] args) throws Exception {
        String readme = Files.readString(Path.of("README.md"));
        example(readme);
        allCallsAreNamed(readme);
        allTestsAreNamed(readme);
        DUE.end();
    }

    private static void example(String readme) throws Exception {
        int start = readme.indexOf("```java\n");
        String[] lines = readme.substring(start + 8, readme.indexOf("```", start + 8)).split("\n");
        BalanceCoder coder = new BalanceCoder();
        DUE.holds("README: " + lines[0], lines[0].equals("BalanceCoder coder = new BalanceCoder();"));
        for (int i = 1; i < lines.length; i++) {
            Matcher call = CALL.matcher(lines[i]);
            if (call.matches()) {
                DUE.due("README: " + lines[i], answer(coder, call.group(1), call.group(2)), Long.parseLong(call.group(3)));
            } else {
                DUE.holds("README: no call with its answer: " + lines[i], lines[i].isEmpty());
            }
        }
    }

    private static long answer(BalanceCoder coder, String name, String values) throws Exception {
        Method method = methodOf(name);
        String[] texts = values.isEmpty() ? new String[0] : values.split(", ");
        Object[] arguments = new Object[texts.length];
        for (int i = 0; i < texts.length; i++) {
            arguments[i] = argument(method.getParameterTypes()[i], texts[i]);
        }
        return ((Number) method.invoke(coder, arguments)).longValue();
    }

    private static Method methodOf(String name) {
        for (Method method : BalanceCoder.class.getDeclaredMethods()) {
            if (method.getName().equals(name)) {
                return method;
            }
        }
        throw new IllegalStateException("no call " + name);
    }

    private static Object argument(Class<?> type, String text) {
        if (type == boolean.class) {
            return Boolean.parseBoolean(text);
        }
        if (type == long.class) {
            return Long.decode(text.replace("L", ""));
        }
        return Integer.decode(text);
    }

    private static void allCallsAreNamed(String readme) {
        Set<String> names = new TreeSet<>();
        for (Method method : BalanceCoder.class.getMethods()) {
            if (method.getDeclaringClass() == BalanceCoder.class) {
                names.add(method.getName());
            }
        }
        DUE.due("calls", names.size(), 25);
        for (String name : names) {
            DUE.holds("README names " + name, readme.contains("`" + name + "`"));
        }
    }

    private static void allTestsAreNamed(String readme) throws Exception {
        try (var files = Files.list(Path.of("src/test/java"))) {
            for (Path file : files.toList()) {
                String name = file.getFileName().toString().replace(".java", "");
                DUE.holds("README names " + name, !name.endsWith("Test") || readme.contains("`" + name + "`"));
            }
        }
    }
}
