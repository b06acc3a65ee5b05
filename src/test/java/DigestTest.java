import java.util.ArrayList;
import java.util.List;

/** Sums up what the other calls tell, in the order of the document's list, and holds the digest against it. */
final class DigestTest {
    private static final String[] COURSES = {"a0!0;u0:3;u0:4;u0:3", "a1!1;a2!2;a3!0", "t7;g0;u1:29", "l3;t20", "t100"};
    // The hash of the list of a new object, worked out apart from any program here.
    private static final long OF_NEW_OBJECT = -7049980307563006860L;

    private final Tally tally = new Tally("DigestTest");
    private final SquirrelPool pool = new SquirrelPool();
    private final boolean[] kept = new boolean[2];
    private String buffer = "";

    private DigestTest() {
    }

    public static void main(String[] args) {
        DigestTest test = new DigestTest();
        test.tally.check(test.pool.digest() == OF_NEW_OBJECT, "a new object: " + test.pool.digest());
        test.go();
        test.tally.end();
    }

    private void go() {
        compare("new");
        pool.changeMost(2);
        pool.changeIdle(1);
        pool.turnOrder();
        compare("settings");
        for (int i = 0; i < COURSES.length; i++) {
            for (char code : COURSES[i].toCharArray()) {
                pool.append(code);
                buffer += code;
            }
            compare("typed " + buffer);
            pool.play();
            buffer = "";
            compare("played " + COURSES[i]);
            if (i == 1 || i == 3) {
                pool.keep(i / 2);
                kept[i / 2] = true;
                compare("kept");
            }
            if (pool.livingByGoing() > 0) {
                pool.breakOff(0);
                compare("broken");
            }
        }
        pool.goBack(1);
        compare("gone back");
        pool.undo();
        compare("undone");
    }

    private void compare(String when) {
        long due = 4363;
        for (long value : list()) {
            due = 31 * due + value;
        }
        tally.check(pool.digest() == due, when + ": digest is " + pool.digest() + ", due is " + due);
    }

    private List<Long> list() {
        List<Long> v = new ArrayList<>();
        add(v, "livingByGoing");
        add(v, "livingByAccount");
        for (int place = 0; place < pool.livingByGoing(); place++) {
            addConnection(v, place);
        }
        add(v, "idle");
        add(v, "leasedByConnections");
        add(v, "leasedBySquirrels");
        addAndOne(v, "nextLent");
        for (int squirrel = 0; squirrel < 20; squirrel++) {
            addAndOne(v, "placeOf", squirrel);
            add(v, "leaseLeft", squirrel);
            addAndOne(v, "queueOf", squirrel);
            add(v, "waitOf", squirrel);
        }
        String settings = "waiting most leastIdle ageLimit restLimit leaseLimit patience isLastFirst time opened";
        for (String name : settings.split(" ")) {
            add(v, name);
        }
        for (int cause = 0; cause < 5; cause++) {
            add(v, "closedFor", cause);
        }
        for (String name : "lendings impatient served waited hits misses savedStates".split(" ")) {
            add(v, name);
        }
        v.add(Double.doubleToLongBits(pool.hitShare()));
        v.add(kept[0] ? 1L : 0L);
        v.add(kept[1] ? 1L : 0L);
        v.add((long) buffer.length());
        for (char code : buffer.toCharArray()) {
            v.add((long) code);
        }
        return v;
    }

    private void addConnection(List<Long> v, int place) {
        add(v, "numberAt", place);
        add(v, "ageAt", place);
        add(v, "isIdle", place);
        add(v, "isBroken", place);
        addAndOne(v, "squirrelAt", place);
        add(v, "sinceAt", place);
        addAndOne(v, "turnOf", place);
        add(v, "lendingsOf", place);
        add(v, "nutsIn", place);
        for (int ago = 0; ago < pool.nutsIn(place); ago++) {
            add(v, "nutAt", place, ago);
        }
    }

    /** The answer as a number; 0 for a call that throws. */
    private void add(List<Long> v, String name, int... arguments) {
        String answer = Caller.answer(pool, name, arguments);
        boolean isZero = answer.startsWith("!") || answer.equals("false");
        v.add(isZero ? 0L : answer.equals("true") ? 1L : Long.parseLong(answer));
    }

    /** The answer and 1, together; 0 for a call that throws. */
    private void addAndOne(List<Long> v, String name, int... arguments) {
        String answer = Caller.answer(pool, name, arguments);
        v.add(answer.startsWith("!") ? 0L : Long.parseLong(answer) + 1);
    }
}
