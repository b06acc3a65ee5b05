import java.io.IOException;
import java.nio.file.Files;
import java.nio.file.Path;
import java.util.List;
import java.util.Set;
import java.util.TreeSet;
import java.util.stream.Collectors;
import java.util.stream.Stream;

/**
 * Plays the runs of calls in the folder that is its argument, each on a new object: README.md tells how they are
 * written. A call that throws, or that only asks, is held to change nothing that can be seen, wherever it stands.
 */
final class RunsTest {
    private static final int PROMISES = 68;
    private static final Set<String> CHANGING = Set.of("ask", "giveBack", "leave", "use", "breakOff", "tick",
            "changeMost", "changeIdle", "changeAge", "changeRest", "changeLease", "changePatience", "turnOrder",
            "append", "clearBuffer", "play", "keep", "goBack", "undo");

    private final Tally tally = new Tally("RunsTest");
    private final Set<Integer> promises = new TreeSet<>();
    private SquirrelPool pool = new SquirrelPool();

    private RunsTest() {
    }

    public static void main(String[] args) throws IOException {
        RunsTest test = new RunsTest();
        try (Stream<Path> files = Files.list(Path.of(args[0]))) {
            List<Path> sorted = files.filter(f -> f.toString().endsWith(".txt")).sorted().collect(Collectors.toList());
            for (Path file : sorted) {
                test.play(file);
            }
        }
        for (int promise = 1; promise <= PROMISES; promise++) {
            test.tally.check(test.promises.contains(promise), "no run for promise " + promise);
        }
        test.tally.end();
    }

    private void play(Path file) throws IOException {
        int number = 0;
        for (String line : Files.readAllLines(file)) {
            number++;
            if (line.startsWith("# Promise ")) {
                promises.add(Integer.parseInt(line.substring(10, line.indexOf(':'))));
            }
            if (line.startsWith("==")) {
                pool = new SquirrelPool();
            } else if (!line.isBlank() && !line.startsWith("#")) {
                for (String call : line.split(" \\| ")) {
                    follow(call.strip(), file.getFileName() + ":" + number + ": ");
                }
            }
        }
    }

    private void follow(String call, String where) {
        if (call.startsWith("type ")) {
            for (char code : call.substring(5).toCharArray()) {
                pool.append(code);
            }
            return;
        }
        String asked = call.split(" [=!] ")[0];
        String due = call.contains(" ! ") ? call.substring(call.indexOf(" ! ") + 1)
                : call.contains(" = ") ? call.substring(call.indexOf(" = ") + 3) : "void";
        String[] words = asked.split(" ");
        int[] arguments = new int[words.length - 1];
        for (int i = 0; i < arguments.length; i++) {
            arguments[i] = Integer.parseInt(words[i + 1]);
        }
        String before = View.of(pool);
        String got = Caller.answer(pool, words[0], arguments);
        tally.check(got.equals(due), where + asked + " answered [" + got + "], due is [" + due + "]");
        if (due.startsWith("!") || !CHANGING.contains(words[0])) {
            String after = View.of(pool);
            tally.check(before.equals(after), where + asked + " changed " + View.difference(before, after));
        }
    }
}
