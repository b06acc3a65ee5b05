import java.util.ArrayList;
import java.util.List;
import java.util.Random;

/** Random runs of calls, the same ones each time, on the program and on the model: all answers are to be the same. */
final class ModelTest {
    private static final int RUNS = 600;
    private static final int STEPS_BETWEEN_VIEWS = 16;
    // The questions of a view that are put to one object, and the calls behind which it is made, are not too many.
    private static final int MOST_CALLS_BEFORE_VIEW = 320;
    private static final int MOST_FAILURES = 20;

    private final Tally tally;
    private final Random random;
    private final int run;
    private final Object pool = new SquirrelPool();
    private final Object model = new Model();
    private final List<Call> calls = new ArrayList<>();
    private int made;
    // A digest takes a call, so that runs with fewer of them go farther.
    private final int callsToDigest;
    // Runs differ in how crowded and how hasty they are.
    private final int squirrels;
    private final int ticks;
    private final int limits;

    private ModelTest(Tally tally, int run) {
        this.tally = tally;
        this.run = run;
        random = new Random(run);
        callsToDigest = run % 2 == 0 ? 1 : 9;
        squirrels = new int[] {4, 10, 21}[run % 3];
        ticks = new int[] {3, 12, 101}[run / 3 % 3];
        limits = new int[] {6, 30, 1001}[run / 9 % 3];
    }

    public static void main(String[] args) {
        Tally tally = new Tally("ModelTest");
        int runs = args.length > 0 ? Integer.parseInt(args[0]) : RUNS;
        for (int run = 0; run < runs && tally.failures() < MOST_FAILURES; run++) {
            new ModelTest(tally, run).go();
        }
        tally.end();
    }

    private void go() {
        int before = tally.failures();
        for (int i = 0; mayCall() && tally.failures() == before; i++) {
            step();
            if (i % STEPS_BETWEEN_VIEWS == 0 && calls.size() <= MOST_CALLS_BEFORE_VIEW) {
                compareViews();
            }
        }
        if (tally.failures() != before) {
            System.out.println("run " + run + ": " + calls);
        }
    }

    private boolean mayCall() {
        return made + 2 <= Call.MOST_CALLS;
    }

    private void step() {
        int dice = random.nextInt(100);
        if (dice < 26) {
            both("ask", squirrel(), random.nextInt(3));
        } else if (dice < 42) {
            both("giveBack", squirrel());
        } else if (dice < 46) {
            both("leave", squirrel());
        } else if (dice < 60) {
            both("use", squirrel(), random.nextInt(8));
        } else if (dice < 66) {
            both("breakOff", random.nextInt(13) - 1);
        } else if (dice < 80) {
            both("tick", random.nextInt(ticks));
        } else if (dice < 88) {
            change();
        } else if (dice < 92) {
            snapshot();
        } else if (dice < 96) {
            text(random.nextInt(4) == 0);
        } else {
            wild();
        }
    }

    private int squirrel() {
        return random.nextInt(40) == 0 ? random.nextInt(24) - 2 : random.nextInt(squirrels);
    }

    private void change() {
        switch (random.nextInt(7)) {
            case 0 -> both("changeMost", random.nextInt(14));
            case 1 -> both("changeIdle", random.nextInt(9) - 1);
            case 2 -> both("changeAge", random.nextInt(limits) + 4);
            case 3 -> both("changeRest", random.nextInt(limits));
            case 4 -> both("changeLease", random.nextInt(limits));
            case 5 -> both("changePatience", random.nextInt(Math.min(limits, 102)));
            default -> both("turnOrder");
        }
    }

    private void snapshot() {
        int dice = random.nextInt(10);
        if (dice < 3) {
            both("keep", random.nextInt(2));
        } else if (dice < 6) {
            both("goBack", random.nextInt(2));
        } else {
            both("undo");
        }
    }

    private void text(boolean spoilt) {
        both("clearBuffer");
        StringBuilder course = new StringBuilder();
        int parts = 1 + random.nextInt(5);
        for (int i = 0; i < parts; i++) {
            course.append(i == 0 ? "" : ";").append(part());
        }
        if (spoilt) {
            int at = random.nextInt(course.length());
            course.setCharAt(at, "agut01239!:;x".charAt(random.nextInt(13)));
        }
        for (char code : course.toString().toCharArray()) {
            both("append", code);
        }
        both("firstError");
        both("digest");
        both("play");
    }

    private String part() {
        int squirrel = random.nextInt(Math.min(squirrels, 20));
        return switch (random.nextInt(5)) {
            case 0 -> "a" + squirrel + "!" + random.nextInt(3);
            case 1 -> "g" + squirrel;
            case 2 -> "l" + squirrel;
            case 3 -> "u" + squirrel + ":" + random.nextInt(30);
            default -> "t" + (1 + random.nextInt(Math.min(ticks, 100)));
        };
    }

    private void wild() {
        int value = new int[] {Integer.MIN_VALUE, -1, 20, 31, 127, 1000, Integer.MAX_VALUE}[random.nextInt(7)];
        String[] names = {"ask", "use", "giveBack", "leave", "breakOff", "tick", "append", "keep", "goBack",
            "changeMost", "changeIdle", "changeAge", "changeRest", "changeLease", "changePatience"};
        int which = random.nextInt(names.length + 2);
        if (which >= names.length) {
            both("ask", squirrel(), value);
            both("use", squirrel(), value);
        } else if (which < 2) {
            both(names[which], value, random.nextInt(5) - 1);
        } else {
            both(names[which], value);
        }
    }

    private void both(String name, int... arguments) {
        if (!mayCall()) {
            return;
        }
        Call call = new Call(name, arguments);
        calls.add(call);
        compare(call);
        if (calls.size() % callsToDigest == 0) {
            compare(new Call("digest"));
        }
    }

    private void compare(Call call) {
        made++;
        String due = call.on(model);
        String got = call.on(pool);
        tally.check(due.equals(got), "run " + run + ", call " + calls.size() + ": " + call + " answered [" + got
                + "], due is [" + due + "]");
    }

    private void compareViews() {
        String due = View.of(() -> model);
        String got = View.of(() -> Call.replay(SquirrelPool::new, calls));
        tally.check(due.equals(got), "run " + run + ": due against seen: " + View.difference(due, got));
    }
}
