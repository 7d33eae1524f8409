import java.io.IOException;
import java.nio.charset.StandardCharsets;
import java.nio.file.Files;
import java.nio.file.Path;
import java.util.List;
import java.util.regex.Pattern;

/** Rules of LANGUAGE.md that can be read off the source of MatchFloor. Runs in the project's folder. */
public final class LanguageTest {
    private static final Checks checks = new Checks("LanguageTest");
    private static final Path SOURCE = Path.of("src", "main", "java", "MatchFloor.java");
    private static final String[] NEVER = {"\\bpackage\\b", "->", "::", "\\bfinally\\b", "\\bsynchronized\\b",
        "\\bassert\\b", "\\bcatch\\b", "\\bprotected\\b", "\\bstatic\\s*\\{", "\\w+Exact\\b", "\\bMath\\.random\\b",
        "\\bSystem\\.(?!arraycopy)", "\\bThread\\b", "\\bequals\\b", "\\bhashCode\\b", "\\btoString\\b", "\\bMap\\b",
        "\\bObject\\b", "\\bwhile\\s*\\(\\s*true", "for\\s*\\(\\s*;", "\"\\s*\\+", "\\+\\s*\"", "\t"};

    private LanguageTest() {
    }

    public static void main(String[] args) throws IOException {
        List<String> lines = Files.readAllLines(SOURCE, StandardCharsets.US_ASCII);
        nothingForbidden(String.join("\n", lines));
        onlyOneImport(lines);
        shortMethods(lines);
        staticFieldsAreConstants(lines);
        checks.end();
    }

    private static void nothingForbidden(String text) {
        for (String pattern : NEVER) {
            checks.fails("in the source: " + pattern, Pattern.compile(pattern).matcher(text).find());
        }
    }

    private static void onlyOneImport(List<String> lines) {
        for (String line : lines) {
            if (line.startsWith("import ")) {
                checks.same("import", line, "import java.util.NoSuchElementException;");
            }
        }
    }

    private static void shortMethods(List<String> lines) {
        int start = 0;
        for (int i = 0; i < lines.size(); i++) {
            String line = lines.get(i);
            checks.holds("line " + (i + 1) + " is at most 120 long", line.length() <= 120);
            if (line.isBlank() || line.endsWith("}")) {
                checks.holds("lines " + start + " to " + i + " are few", i - start <= 60);
                start = i;
            }
        }
    }

    private static void staticFieldsAreConstants(List<String> lines) {
        for (String line : lines) {
            if (line.contains(" static ") && line.endsWith(";")) {
                checks.holds(line.trim(), line.matches(" +private static final (int|char) [A-Z_]+ = .*;"));
            }
        }
    }
}
