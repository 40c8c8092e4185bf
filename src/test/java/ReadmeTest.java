import java.io.IOException;
import java.lang.reflect.InvocationTargetException;
import java.lang.reflect.Method;
import java.nio.file.Files;
import java.nio.file.Path;
import java.util.ArrayList;
import java.util.List;
import java.util.Set;
import java.util.TreeSet;
import java.util.regex.Matcher;
import java.util.regex.Pattern;
import java.util.stream.Stream;

/** Makes the calls that README.md shows, in their order, and holds each answer against the one that stands there. */
public final class ReadmeTest {
    private static final Pattern CALL = Pattern.compile("x\\.(\\w+)\\(([^()]*)\\);\\s+// ([^\\s:]+)(?:: (.*))?");
    private static final String NEW = "SlipCovers x = new SlipCovers();";
    private static final int MOST_CALLS = 512;

    private final Set<String> shown = new TreeSet<>();
    private SlipCovers x = null;
    private int calls = 0;
    private int wrong = 0;

    public static void main(String[] args) throws Exception {
        List<String> page = Files.readAllLines(Path.of(args.length > 0 ? args[0] : "README.md"));
        ReadmeTest test = new ReadmeTest();
        for (String line : shownLines(page)) test.follow(line.strip());
        test.checkWhole();
        test.checkTestsNamed(String.join("\n", page));
        System.out.println(test.calls + " calls of README.md, " + test.wrong + " things are not as it tells");
        if (test.wrong != 0) System.exit(1);
    }

    /** What stands between ```java and ```. */
    private static List<String> shownLines(List<String> page) {
        List<String> lines = new ArrayList<>();
        boolean inside = false;
        for (String line : page) {
            if (line.startsWith("```")) inside = line.equals("```java");
            else if (inside && !line.isBlank()) lines.add(line);
        }
        return lines;
    }

    private void check(boolean holds, String what) {
        if (holds) return;
        wrong++;
        System.out.println("README.md: " + what);
    }

    private void follow(String line) throws IllegalAccessException {
        if (line.equals(NEW)) {
            x = new SlipCovers();
            return;
        }
        Matcher parts = CALL.matcher(line);
        if (!parts.matches() || x == null) {
            check(false, "a line that is no call with its answer: " + line);
            return;
        }
        Method method = methodOf(parts.group(1));
        String[] written = parts.group(2).isEmpty() ? new String[0] : parts.group(2).split(", ");
        if (method == null || method.getParameterCount() != written.length) {
            check(false, "no such call: " + line);
            return;
        }
        calls++;
        shown.add(method.getName());
        String answer = answerOf(method, written);
        check(answer.equals(parts.group(3)), line + " .. it answers " + answer);
        if (method.getName().equals("feed")) {
            check(("\"" + bytesOf(written) + "\"").equals(parts.group(4)), line + " .. the bytes are \"" + bytesOf(written) + "\"");
        }
    }

    private static Method methodOf(String name) {
        for (Method m : SlipCovers.class.getMethods()) {
            if (m.getDeclaringClass() == SlipCovers.class && m.getName().equals(name)) return m;
        }
        return null;
    }

    private String answerOf(Method method, String[] written) throws IllegalAccessException {
        Object[] values = new Object[written.length];
        for (int k = 0; k < values.length; k++) {
            boolean isChoice = method.getParameterTypes()[k] == boolean.class;
            values[k] = isChoice ? (Object) written[k].equals("true") : (Object) numberOf(written[k]);
        }
        try {
            return String.valueOf(method.invoke(x, values));
        } catch (InvocationTargetException e) {
            return e.getCause().getClass().getSimpleName();
        }
    }

    private static int numberOf(String written) {
        return Long.decode(written).intValue();
    }

    private static String bytesOf(String[] numbers) {
        StringBuilder bytes = new StringBuilder();
        for (String written : numbers) {
            for (int shift = 24; shift >= 0; shift -= 8) bytes.append((char) (numberOf(written) >>> shift & 255));
        }
        return bytes.toString();
    }

    private void checkWhole() {
        check(calls <= MOST_CALLS, "more calls than an object is good for");
        for (Method m : SlipCovers.class.getMethods()) {
            if (m.getDeclaringClass() == SlipCovers.class) check(shown.contains(m.getName()), "it does not show " + m.getName());
        }
    }

    /** The page says how to run the tests, and names each. */
    private void checkTestsNamed(String page) throws IOException {
        check(page.contains("`.ci/run`"), "it does not say how to run the tests");
        try (Stream<Path> files = Files.list(Path.of("src/test/java"))) {
            for (Path file : (Iterable<Path>) files::iterator) {
                String name = file.getFileName().toString();
                if (name.endsWith("Test.java")) check(page.contains(name), "it does not name " + name);
            }
        }
    }
}
