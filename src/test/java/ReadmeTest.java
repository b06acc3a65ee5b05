import java.io.IOException;
import java.lang.reflect.Method;
import java.lang.reflect.Modifier;
import java.nio.file.Files;
import java.nio.file.Path;
import java.util.Set;
import java.util.TreeSet;
import java.util.regex.Matcher;
import java.util.regex.Pattern;

/** Plays the examples in README.md, whose path is the argument, line by line, and looks whether it names each call. */
final class ReadmeTest {
    private static final Pattern MAKING = Pattern.compile("SquirrelPool pool = new SquirrelPool\\(\\);");
    private static final Pattern TYPING =
            Pattern.compile("for \\(char c : \"([^\"]+)\"\\.toCharArray\\(\\)\\) pool\\.append\\(c\\);");
    private static final Pattern CALLING =
            Pattern.compile("pool\\.(\\w+)\\(((?:\\d+(?:, \\d+)*)?)\\); +// (nothing|throws \\w+|[^\\s:]+)(?:: .+)?");

    private final Tally tally = new Tally("ReadmeTest");
    private SquirrelPool pool;

    private ReadmeTest() {
    }

    public static void main(String[] args) throws IOException {
        ReadmeTest test = new ReadmeTest();
        Set<String> tabled = new TreeSet<>();
        boolean isJava = false;
        for (String line : Files.readAllLines(Path.of(args[0]))) {
            if (line.startsWith("```")) {
                isJava = line.equals("```java");
            } else if (isJava) {
                test.play(line);
            } else if (line.startsWith("| ")) {
                addNames(tabled, line);
            }
        }
        test.checkTable(tabled);
        test.tally.end();
    }

    private void play(String line) {
        Matcher typing = TYPING.matcher(line);
        Matcher calling = CALLING.matcher(line);
        if (MAKING.matcher(line).matches()) {
            pool = new SquirrelPool();
        } else if (pool != null && typing.matches()) {
            for (char code : typing.group(1).toCharArray()) {
                pool.append(code);
            }
        } else if (pool != null && calling.matches()) {
            String told = calling.group(3).replaceFirst("^throws ", "! ").replaceFirst("^nothing$", "void");
            String got = new Call(calling.group(1), numbers(calling.group(2))).on(pool);
            tally.check(got.equals(told), "[" + line + "] answers [" + got + "]");
        } else {
            tally.check(false, "not understood: [" + line + "]");
        }
    }

    private static int[] numbers(String told) {
        String[] parts = told.isEmpty() ? new String[0] : told.split(", ");
        int[] numbers = new int[parts.length];
        for (int i = 0; i < parts.length; i++) {
            numbers[i] = Integer.parseInt(parts[i]);
        }
        return numbers;
    }

    private static void addNames(Set<String> names, String row) {
        Matcher name = Pattern.compile("`(\\w+)`").matcher(row);
        while (name.find()) {
            names.add(name.group(1));
        }
    }

    private void checkTable(Set<String> tabled) {
        Set<String> due = new TreeSet<>();
        for (Method method : SquirrelPool.class.getDeclaredMethods()) {
            if (Modifier.isPublic(method.getModifiers())) {
                due.add(method.getName());
            }
        }
        tally.check(tabled.equals(due), "the table has " + tabled + ", the face has " + due);
    }
}
