import java.util.ArrayList;
import java.util.List;

/**
 * Calls each undoable method with no saved state, with 1 to 6, and with one more than there may be: the state from
 * before it is saved, the oldest one is dropped, and undo() restores them one after the other. What is no undoable
 * method, or throws, saves none.
 */
final class UndoTest {
    private static final int MOST_SAVED = 6;
    private static final String COURSE = "a0!0;a1!0;a2!0;a3!0;a4!0;a5!0;a6!0;a7!0;a8!1";
    // On a new object.
    private static final String[] AT_FIRST = {"ask 0 0", "tick 1", "tick 100", "changeMost 1", "changeMost 8",
        "changeIdle 6", "changeIdle 0", "changeAge 5", "changeAge 200", "changeRest 999", "changeRest 60",
        "changeLease 1", "changeLease 40", "changePatience 99", "changePatience 20", "turnOrder"};
    // Behind the course: squirrels 0 to 7 have connections, 8 waits.
    private static final String[] BEHIND_COURSE = {"ask 9 2", "giveBack 0", "leave 8", "use 7 29", "breakOff 0",
        "breakOff 7", "tick 1", "tick 100", "changeMost 1", "changeMost 8", "changeIdle 6", "changeIdle 0",
        "changeAge 999", "changeAge 200", "changeRest 1", "changeRest 60", "changeLease 999", "changeLease 40",
        "changePatience 1", "changePatience 20", "turnOrder", "play", "goBack 0", "goBack 1"};
    private static final String[] SAVING_NONE = {"keep 0", "keep 1", "append 97", "clearBuffer", "firstError", "digest",
        "ticksToClose", "ticksToServe 8", "savedStates", "ask 20 0", "ask 9 3", "ask 0 0", "giveBack 8", "leave 0",
        "use 8 0", "use 0 30", "breakOff 8", "breakOff -1", "tick 0", "tick 101", "changeMost 13", "changeIdle 7",
        "changeAge 4", "changeRest 0", "changeLease 1000", "changePatience 100", "append 32", "keep 2", "goBack 2"};

    private final Tally tally = new Tally("UndoTest");

    private UndoTest() {
    }

    public static void main(String[] args) {
        UndoTest test = new UndoTest();
        for (String told : AT_FIRST) {
            test.check(List.of(), call(told));
        }
        for (int ticks = 0; ticks <= MOST_SAVED; ticks++) {
            for (String told : BEHIND_COURSE) {
                test.check(course(ticks), call(told));
            }
            for (String told : SAVING_NONE) {
                test.checkThatNoneIsSaved(course(ticks), call(told));
            }
        }
        test.tally.end();
    }

    private static Call call(String told) {
        String[] words = told.split(" ");
        int[] arguments = new int[words.length - 1];
        for (int i = 0; i < arguments.length; i++) {
            arguments[i] = Integer.parseInt(words[i + 1]);
        }
        return new Call(words[0], arguments);
    }

    /** One saved state of the course, one of each tick behind it, and a text to be played. */
    private static List<Call> course(int ticks) {
        List<Call> calls = new ArrayList<>(List.of(new Call("keep", 0)));
        for (char code : COURSE.toCharArray()) {
            calls.add(new Call("append", code));
        }
        calls.add(new Call("play"));
        for (int i = 0; i < ticks; i++) {
            calls.add(new Call("tick", 1));
        }
        calls.add(new Call("keep", 1));
        for (char code : "g3;t9".toCharArray()) {
            calls.add(new Call("append", code));
        }
        return calls;
    }

    private void check(List<Call> before, Call call) {
        List<Call> calls = new ArrayList<>(before);
        int saved = savedBehind(calls);
        String when = call + " with " + saved + " saved states: ";
        List<String> restored = viewsOfUndoing(calls);
        calls.add(call);
        int due = Math.min(saved + 1, MOST_SAVED);
        tally.check(savedBehind(calls) == due, when + savedBehind(calls) + " behind it");
        List<String> got = viewsOfUndoing(calls);
        tally.check(got.size() == due + 1, when + (got.size() - 1) + " could be undone");
        // Behind the call stands one state more; what it undoes to is all that could be seen before it, but the oldest.
        for (int i = 1; i < got.size(); i++) {
            tally.check(i <= restored.size() && got.get(i).equals(restored.get(i - 1)), when + "undo " + i + " is wrong");
        }
    }

    private void checkThatNoneIsSaved(List<Call> before, Call call) {
        List<Call> calls = Call.with(before, call);
        String when = call + " with " + savedBehind(before) + " saved states: ";
        tally.check(savedBehind(calls) == savedBehind(before), when + savedBehind(calls) + " behind it");
        tally.check(viewsOfUndoing(calls).equals(viewsOfUndoing(before)), when + "other states are saved");
    }

    private static int savedBehind(List<Call> calls) {
        return Integer.parseInt(new Call("savedStates").on(Call.replay(SquirrelPool::new, calls)));
    }

    /** What is seen now, and behind each undo() that does not throw. */
    private static List<String> viewsOfUndoing(List<Call> before) {
        List<Call> calls = new ArrayList<>(before);
        List<String> views = new ArrayList<>();
        for (int i = 0; i <= MOST_SAVED + 1; i++) {
            List<Call> made = calls;
            views.add(View.ofState(() -> Call.replay(SquirrelPool::new, made)));
            if (new Call("undo").on(Call.replay(SquirrelPool::new, calls)).startsWith("!")) {
                break;
            }
            calls = Call.with(calls, new Call("undo"));
        }
        return views;
    }
}
