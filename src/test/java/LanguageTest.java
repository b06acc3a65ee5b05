import java.io.IOException;
import java.nio.file.Files;
import java.nio.file.Path;
import java.util.List;
import java.util.regex.Matcher;
import java.util.regex.Pattern;

/** Looks in the source, whose path is the argument, for what LANGUAGE.md rules out, as far as single lines show it. */
final class LanguageTest {
    private static final int MOST_LINES = 60;
    private static final int MOST_CLASSES = 12;
    private static final int MOST_FIELDS = 20;
    private static final String[] RULED_OUT = {
        "^package ", "^import ", "->", "::", "\\bfinally\\b", "\\bsynchronized\\b", "\\bassert\\b", "\\bcatch\\b",
        "\\btry\\b", "\\bstatic \\{", "\\bDouble\\.", "\\bFloat\\.", "\\bString\\.", "\\bSystem\\.(?!arraycopy)",
        "\\bMath\\.\\w+Exact", "\\bwhile \\(true\\)", "\\bfor \\(;;\\)", "\\bvolatile\\b", "\\bnative\\b",
        "\\b(equals|hashCode|toString)\\(", "\\bprotected\\b", "^    (?!private|public|}|//|/\\*|\\*)\\S",
        "\\bThread\\b", "\\bRandom\\b", "\\bMath\\.random", "\\bClass\\b", "[^\\x20-\\x7e]", "\\bvar\\b"};
    private static final String EXCEPTIONS = "IllegalStateException|IllegalArgumentException|IndexOutOfBoundsException";

    private static final String CONSTANTS = "int|long|boolean|char|String|(int|long|char|byte)\\[\\]";

    private LanguageTest() {
    }

    public static void main(String[] args) throws IOException {
        Tally tally = new Tally("LanguageTest");
        List<String> lines = Files.readAllLines(Path.of(args[0]));
        for (String pattern : RULED_OUT) {
            checkLines(tally, lines, Pattern.compile(pattern));
        }
        checkLines(tally, lines, Pattern.compile("throw (?!new (" + EXCEPTIONS + ")\\(\"\"\\);$)"));
        String allowed = "final (" + CONSTANTS + ") |final class ";
        checkLines(tally, lines, Pattern.compile("^\\s+(private )?static (?!" + allowed + ")[^(]*$"));
        checkLengths(tally, lines);
        checkCounts(tally, lines);
        tally.end();
    }

    private static void checkLines(Tally tally, List<String> lines, Pattern pattern) {
        int found = 0;
        for (int i = 0; i < lines.size() && found == 0; i++) {
            String code = lines.get(i).replaceAll("\"[^\"]*\"", "\"\"").replaceAll("//.*|^\\s*/?\\*.*", "");
            if (pattern.matcher(code).find()) {
                found = i + 1;
            }
        }
        tally.check(found == 0, "line " + found + " has " + pattern);
    }

    private static void checkLengths(Tally tally, List<String> lines) {
        int start = -1;
        String end = "";
        for (int i = 0; i < lines.size(); i++) {
            String line = lines.get(i);
            Matcher head = Pattern.compile("^( {4}| {8})[a-z].*\\(.*|^( {4}| {8})[A-Z]\\w+\\(.*").matcher(line);
            if (start < 0 && head.matches() && !line.strip().endsWith(";")) {
                start = i;
                end = line.substring(0, line.length() - line.stripLeading().length()) + "}";
            } else if (start >= 0 && line.equals(end)) {
                tally.check(i - start < MOST_LINES, "the method at line " + (start + 1) + " is long");
                start = -1;
            }
        }
        tally.check(start < 0, "a method without an end");
    }

    private static void checkCounts(Tally tally, List<String> lines) {
        int classes = 0;
        int fields = 0;
        for (String line : lines) {
            if (line.contains(" class ") && line.endsWith("{")) {
                classes++;
                fields = 0;
            } else if (line.matches("( {4}private| {8})( final)? ?(?!return)[\\w\\[\\]]+ \\w+;")) {
                fields++;
                tally.check(fields <= MOST_FIELDS, "too many fields at " + line.strip());
            }
        }
        tally.check(classes <= MOST_CLASSES, classes + " classes");
    }
}
