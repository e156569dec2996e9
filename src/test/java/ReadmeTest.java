import java.io.IOException;
import java.lang.reflect.Method;
import java.lang.reflect.Modifier;
import java.nio.file.Files;
import java.nio.file.Path;
import java.util.Map;
import java.util.TreeMap;
import java.util.regex.Matcher;
import java.util.regex.Pattern;

/** What README.md says of the class: the answers of its example, and every call by name. */
public final class ReadmeTest {
    private static int wrong = 0;

    private static void fail(String what) {
        wrong++;
        System.out.println("README.md: " + what);
    }

    private static Map<String, Method> face() {
        Map<String, Method> face = new TreeMap<>();
        for (Method m : FlyWheels.class.getDeclaredMethods()) {
            if (Modifier.isPublic(m.getModifiers())) {
                face.put(m.getName(), m);
            }
        }
        return face;
    }

    private static Object[] arguments(String list) {
        if (list.isBlank()) {
            return new Object[0];
        }
        String[] parts = list.split(",");
        Object[] values = new Object[parts.length];
        for (int i = 0; i < parts.length; i++) {
            values[i] = Integer.valueOf(parts[i].trim());
        }
        return values;
    }

    /** The text that the example feeds, then each call with the number that its comment begins with. */
    private static void example(String page) throws ReflectiveOperationException {
        FlyWheels x = new FlyWheels();
        Matcher text = Pattern.compile("for \\(char c : \"([^\"]*)\"").matcher(page);
        if (!text.find()) {
            fail("the example feeds no text");
            return;
        }
        for (char c : text.group(1).toCharArray()) {
            x.feed(c);
        }
        Matcher call = Pattern.compile("(?m)^x\\.(\\w+)\\(([-\\d, ]*)\\); +// (-?\\d+)\\b").matcher(page);
        int calls = 0;
        while (call.find()) {
            Method m = face().get(call.group(1));
            long got = m == null ? Long.MIN_VALUE : ((Number) m.invoke(x, arguments(call.group(2)))).longValue();
            calls++;
            if (got != Long.parseLong(call.group(3))) {
                fail(call.group(1) + "(" + call.group(2) + ") answered " + got + ", it says " + call.group(3));
            }
        }
        if (calls != page.split("\nx\\.").length - 1) {
            fail("a call of the example tells no answer");
        }
    }

    private static void everyCall(String page) {
        for (Method m : face().values()) {
            Matcher named = Pattern.compile("`" + m.getName() + "\\(([^)]*)\\)`").matcher(page);
            if (!named.find()) {
                fail("it leaves out " + m.getName());
            } else {
                String list = named.group(1);
                int parameters = list.isEmpty() ? 0 : list.split(",").length;
                if (parameters != m.getParameterCount()) {
                    fail("parameters of " + m.getName() + ": " + list);
                }
            }
        }
    }

    private static void everyTest(String page) throws IOException {
        try (var tests = Files.list(Path.of("src/test/java"))) {
            for (Path test : (Iterable<Path>) tests::iterator) {
                if (!page.contains(test.getFileName().toString())) {
                    fail("it leaves out " + test);
                }
            }
        }
        if (!page.contains("`.ci/run`")) {
            fail("it does not say how the tests are run");
        }
    }

    public static void main(String[] args) throws IOException, ReflectiveOperationException {
        String page = Files.readString(Path.of("README.md"));
        example(page);
        everyCall(page);
        everyTest(page);
        System.out.println(wrong == 0 ? "README.md is as the class is" : wrong + " are not so");
        if (wrong != 0) {
            System.exit(1);
        }
    }
}
