import java.io.IOException;
import java.lang.reflect.Method;
import java.nio.charset.StandardCharsets;
import java.nio.file.DirectoryStream;
import java.nio.file.Files;
import java.nio.file.Path;
import java.util.HashMap;
import java.util.Map;
import java.util.TreeSet;
import java.util.regex.Matcher;
import java.util.regex.Pattern;

/** README.md: its example answers what stands behind each call, and it names every call and every test. */
public final class ReadmeTest {
    private static final Checks checks = new Checks("ReadmeTest");
    private static final Path README = Path.of("README.md");
    private static final Path TESTS = Path.of("src", "test", "java");
    private static final Pattern CALL = Pattern.compile("(?:int (\\w+) = )?floor\\.(\\w+)\\((.*?)\\); +// (\\w+): .+");

    private final MatchFloor floor = new MatchFloor();
    private final Map<String, Object> named = new HashMap<>();

    private ReadmeTest() {
    }

    public static void main(String[] args) throws IOException, ReflectiveOperationException {
        String text = Files.readString(README, StandardCharsets.UTF_8);
        new ReadmeTest().example(between(text, "```java\n", "```"));
        everyCallIsNamed(between(text, "## Use", "## Tests"));
        everyTestIsNamed(between(text, "## Tests", "\u0000"));
        checks.end();
    }

    private static String between(String text, String start, String end) {
        int from = text.indexOf(start);
        checks.holds("README.md has " + start, from >= 0);
        String rest = text.substring(Math.max(from, 0) + start.length());
        int to = rest.indexOf(end);
        return to < 0 ? rest : rest.substring(0, to);
    }

    private void example(String lines) throws ReflectiveOperationException {
        String[] all = lines.split("\n");
        checks.same("the example begins", all[0], "MatchFloor floor = new MatchFloor();");
        for (int i = 1; i < all.length; i++) {
            Matcher call = CALL.matcher(all[i]);
            checks.holds("a call and its answer: " + all[i], call.matches());
            if (call.matches()) {
                Object got = answer(call.group(2), call.group(3));
                checks.same(all[i], String.valueOf(got), call.group(4));
                named.put(String.valueOf(call.group(1)), got);
            }
        }
    }

    private Object answer(String name, String args) throws ReflectiveOperationException {
        String[] parts = args.isEmpty() ? new String[0] : args.split(", ");
        Object[] values = new Object[parts.length];
        for (int i = 0; i < parts.length; i++) {
            values[i] = value(parts[i]);
        }
        for (Method method : MatchFloor.class.getMethods()) {
            if (method.getName().equals(name)) {
                return method.invoke(floor, values);
            }
        }
        throw new NoSuchMethodException(name);
    }

    private Object value(String written) {
        if (named.containsKey(written)) {
            return named.get(written);
        }
        if (written.startsWith("'")) {
            return written.charAt(1);
        }
        return Integer.valueOf(written);
    }

    private static void everyCallIsNamed(String text) {
        for (Method method : MatchFloor.class.getDeclaredMethods()) {
            boolean open = java.lang.reflect.Modifier.isPublic(method.getModifiers());
            checks.holds("README.md names " + method.getName(), !open || text.contains("`" + method.getName() + "`"));
        }
    }

    private static void everyTestIsNamed(String text) throws IOException {
        TreeSet<String> there = new TreeSet<>();
        try (DirectoryStream<Path> files = Files.newDirectoryStream(TESTS, "*Test.java")) {
            for (Path file : files) {
                there.add(file.getFileName().toString().replace(".java", ""));
            }
        }
        TreeSet<String> listed = new TreeSet<>();
        for (Matcher row = Pattern.compile("(?m)^\\| `(\\w+)` \\|").matcher(text); row.find();) {
            listed.add(row.group(1));
        }
        checks.same("the tests that README.md lists", listed.toString(), there.toString());
    }
}
