import java.io.IOException;
import java.nio.file.Files;
import java.nio.file.Path;
import java.util.ArrayList;
import java.util.HashSet;
import java.util.List;
import java.util.Set;
import java.util.TreeSet;
import java.util.regex.Matcher;
import java.util.regex.Pattern;

/**
 * Plays the runs of calls in the folders that are its arguments, behind the document's path; README.md tells how they
 * are written. A call that throws, or that only asks, is held to change nothing, wherever it stands. The model is held
 * to the same answers, so that it can be trusted where it stands in for the document.
 */
final class RunsTest {
    private static final int PROMISES = 68;
    private static final int MOST_STEPS = 300;
    // Instead of a number: what the other calls tell, summed up as the document's list says.
    private static final String LISTED = "listed";
    private static final Pattern TITLE = Pattern.compile("Promise (\\d+), ([^:]+): .+");
    private static final Set<String> CHANGING = Set.of("ask", "giveBack", "leave", "use", "breakOff", "tick",
            "changeMost", "changeIdle", "changeAge", "changeRest", "changeLease", "changePatience", "turnOrder",
            "append", "clearBuffer", "play", "keep", "goBack", "undo");

    private final Tally tally = new Tally("RunsTest");
    private final List<String> headings;
    private final Set<Integer> promises = new TreeSet<>();

    private RunsTest(List<String> headings) {
        this.headings = headings;
    }

    public static void main(String[] args) throws IOException {
        RunsTest test = new RunsTest(Files.readAllLines(Path.of(args[0])));
        for (int i = 1; i < args.length; i++) {
            List<Run> runs = Run.allIn(Path.of(args[i]));
            test.checkTitles(runs);
            for (Run run : runs) {
                test.play(run);
                test.playOnModel(run);
            }
        }
        test.checkThatNoPromiseIsLeftOut();
        test.tally.end();
    }

    /** Each run says which promise it tests, by its number and name, and which case. */
    private void checkTitles(List<Run> runs) {
        Set<String> titles = new HashSet<>();
        for (Run run : runs) {
            Matcher title = TITLE.matcher(run.title);
            boolean isWhole = title.matches();
            tally.check(isWhole, run.file + ": no promise and case in [" + run.title + "]");
            tally.check(titles.add(run.title), run.file + ": twice [" + run.title + "]");
            tally.check(run.steps.stream().anyMatch(s -> !s.due.equals(Run.ANY)), "nothing is due in " + run.title);
            if (isWhole) {
                promises.add(Integer.parseInt(title.group(1)));
                String heading = "## Promise " + title.group(1) + ": " + title.group(2);
                tally.check(headings.contains(heading), run.file + ": not in the document: " + heading);
            }
        }
    }

    private void checkThatNoPromiseIsLeftOut() {
        for (int promise = 1; promise <= PROMISES; promise++) {
            tally.check(promises.contains(promise), "no run for promise " + promise);
        }
    }

    private void play(Run run) {
        tally.check(run.steps.size() <= MOST_STEPS, run.title + ": the run is too long");
        Object pool = new SquirrelPool();
        List<Call> calls = new ArrayList<>();
        List<Call> changing = new ArrayList<>();
        String view = null;
        for (Run.Step step : run.steps) {
            boolean isToChange = CHANGING.contains(step.call.name) && !step.due.startsWith("!");
            if (!isToChange && view == null) {
                view = View.of(() -> Call.replay(SquirrelPool::new, calls));
            }
            String due = step.due.equals(LISTED) ? listed(calls, changing) : step.due;
            checkAnswer(step, step.call.on(pool), due);
            calls.add(step.call);
            if (isToChange) {
                changing.add(step.call);
                view = null;
            } else {
                String after = View.of(() -> Call.replay(SquirrelPool::new, calls));
                tally.check(view.equals(after), step.where + step.call + " changed " + View.difference(view, after));
            }
        }
        checkTwins(run, calls, changing);
    }

    private void playOnModel(Run run) {
        Object model = new Model();
        for (Run.Step step : run.steps) {
            String answer = step.call.on(model);
            if (!step.due.equals(LISTED)) {
                checkAnswer(step, answer, step.due);
            }
        }
    }

    private void checkAnswer(Run.Step step, String got, String due) {
        boolean holds = due.equals(Run.ANY) ? !got.startsWith("!") : got.equals(due);
        tally.check(holds, step.where + step.call + " answered [" + got + "], due is [" + due + "]");
    }

    /** Without the calls that throw or only ask, all has to end the same: saved states, slots and urgencies too. */
    private void checkTwins(Run run, List<Call> calls, List<Call> changing) {
        if (calls.size() == changing.size()) {
            return;
        }
        List<Call> one = new ArrayList<>(calls);
        List<Call> other = new ArrayList<>(changing);
        List<Call> probes = new ArrayList<>(List.of(new Call("goBack", 0), new Call("goBack", 1)));
        for (int squirrel = 0; squirrel < 20; squirrel++) {
            probes.add(new Call("ask", squirrel, 1));
        }
        for (Call probe : probes) {
            checkTwin(run, Call.with(one, probe), Call.with(other, probe));
        }
        for (int i = 0; i < 7; i++) {
            one.add(new Call("undo"));
            other.add(new Call("undo"));
            checkTwin(run, one, other);
        }
    }

    private void checkTwin(Run run, List<Call> one, List<Call> other) {
        String got = new Call("digest").on(Call.replay(SquirrelPool::new, one));
        String due = new Call("digest").on(Call.replay(SquirrelPool::new, other));
        tally.check(got.equals(due), run.file + " (" + run.title + "): something hidden was changed by a call that "
                + "throws or only asks; seen behind " + one.get(one.size() - 1));
    }

    private static String listed(List<Call> calls, List<Call> changing) {
        boolean[] kept = new boolean[2];
        StringBuilder buffer = new StringBuilder();
        for (Call call : changing) {
            switch (call.name) {
                case "keep" -> kept[call.arguments[0]] = true;
                case "append" -> buffer.append((char) call.arguments[0]);
                case "clearBuffer", "play" -> buffer.setLength(0);
                default -> { }
            }
        }
        return String.valueOf(DigestList.hash(Call.replay(SquirrelPool::new, calls), kept, buffer.toString()));
    }
}
