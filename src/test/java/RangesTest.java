import java.util.List;
import java.util.Set;
import java.util.TreeSet;

/**
 * Puts many numbers to each parameter of each call: those beyond its range are refused by the exception that the
 * document names, and change nothing; those within it are not refused by that one.
 */
final class RangesTest {
    private static final String INDEX = "! IndexOutOfBoundsException";
    private static final String ARGUMENT = "! IllegalArgumentException";
    private static final int FARTHEST_OF_ALL = 1100;
    private static final int NUMBERS_ON_ONE_OBJECT = 200;

    private final Tally tally = new Tally("RangesTest");
    private final Set<Integer> numbers = new TreeSet<>();

    private RangesTest() {
        for (int number = -FARTHEST_OF_ALL; number <= FARTHEST_OF_ALL; number++) {
            numbers.add(number);
        }
        // A number that is looked at in its last bits alone would pass for an allowed one.
        for (int bits = 8; bits < 32; bits++) {
            for (int small = -1; small <= 130; small++) {
                numbers.add((1 << bits) + small);
                numbers.add(-(1 << bits) + small);
            }
        }
    }

    public static void main(String[] args) {
        RangesTest test = new RangesTest();
        test.checkSquirrels();
        test.checkPlaces();
        test.checkOthers();
        test.tally.end();
    }

    private void checkSquirrels() {
        for (String name : List.of("giveBack", "leave", "has", "placeOf", "leaseLeft", "isWaiting", "waitOf", "queueOf",
                "ticksToServe")) {
            check(Pool.EMPTY, new Call(name, 0), 0, 0, 19, INDEX);
            check(Pool.CROWDED, new Call(name, 0), 0, 0, 19, INDEX);
        }
        for (String name : List.of("ask", "use")) {
            check(Pool.EMPTY, new Call(name, 0, 0), 0, 0, 19, INDEX);
            check(Pool.CROWDED, new Call(name, 0, -1), 0, 0, 19, INDEX);
        }
    }

    private void checkPlaces() {
        for (String name : List.of("breakOff", "numberAt", "ageAt", "isIdle", "isBroken", "squirrelAt", "sinceAt",
                "turnOf", "lendingsOf", "nutsIn")) {
            check(Pool.EMPTY, new Call(name, 0), 0, 0, -1, INDEX);
            check(Pool.ONE, new Call(name, 0), 0, 0, 0, INDEX);
            check(Pool.CROWDED, new Call(name, 0), 0, 0, 11, INDEX);
        }
        check(Pool.EMPTY, new Call("nutAt", 0, 0), 0, 0, -1, INDEX);
        check(Pool.ONE, new Call("nutAt", 0, 0), 0, 0, 0, INDEX);
        check(Pool.ONE, new Call("nutAt", 0, 0), 1, 0, 3, INDEX);
        check(Pool.CROWDED, new Call("nutAt", 0, 0), 1, 0, -1, INDEX);
        check(Pool.EMPTY, new Call("waiterAt", 0), 0, 0, -1, INDEX);
        check(Pool.CROWDED, new Call("waiterAt", 0), 0, 0, 7, INDEX);
    }

    private void checkOthers() {
        check(Pool.EMPTY, new Call("ask", 0, 0), 1, 0, 2, ARGUMENT);
        check(Pool.CROWDED, new Call("ask", 0, 0), 1, 0, 2, ARGUMENT);
        for (Pool pool : Pool.values()) {
            check(pool, new Call("use", 0, 0), 1, 0, 29, ARGUMENT);
            check(pool, new Call("wouldHit", 0), 0, 0, 29, ARGUMENT);
            check(pool, new Call("idleWith", 0), 0, 0, 29, ARGUMENT);
            check(pool, new Call("tick", 0), 0, 1, 100, ARGUMENT);
            check(pool, new Call("changeMost", 0), 0, 1, 12, ARGUMENT);
            check(pool, new Call("changeIdle", 0), 0, 0, 6, ARGUMENT);
            check(pool, new Call("changeAge", 0), 0, 5, 999, ARGUMENT);
            check(pool, new Call("changeRest", 0), 0, 1, 999, ARGUMENT);
            check(pool, new Call("changeLease", 0), 0, 1, 999, ARGUMENT);
            check(pool, new Call("changePatience", 0), 0, 1, 99, ARGUMENT);
            check(pool, new Call("append", 0), 0, 33, 126, ARGUMENT);
            check(pool, new Call("keep", 0), 0, 0, 1, ARGUMENT);
            check(pool, new Call("goBack", 0), 0, 0, 1, ARGUMENT);
            check(pool, new Call("closedFor", 0), 0, 0, 4, ARGUMENT);
        }
    }

    private void check(Pool kind, Call call, int parameter, int least, int greatest, String refusal) {
        Object refusing = kind.make();
        long digest = ((SquirrelPool) refusing).digest();
        int made = 0;
        for (int number : numbers) {
            boolean isAllowed = number >= least && number <= greatest;
            if (made == NUMBERS_ON_ONE_OBJECT) {
                tally.check(((SquirrelPool) refusing).digest() == digest, kind + ", refusing " + call + " changes it");
                refusing = kind.make();
                made = 0;
            }
            made += isAllowed ? 0 : 1;
            int[] arguments = call.arguments.clone();
            arguments[parameter] = number;
            Call with = new Call(call.name, arguments);
            String got = with.on(isAllowed ? kind.make() : refusing);
            tally.check(got.equals(refusal) != isAllowed, kind + ", " + with + ": " + got);
        }
        tally.check(((SquirrelPool) refusing).digest() == digest, kind + ", refusing " + call + " changes it");
    }

    /** No connection; one, with four nuts; twelve leased ones, eight squirrels who wait, and a full buffer. */
    private enum Pool {
        EMPTY, ONE, CROWDED;

        Object make() {
            SquirrelPool pool = new SquirrelPool();
            if (this == ONE) {
                pool.ask(5, 0);
                for (int nut = 0; nut < 4; nut++) {
                    pool.use(5, nut);
                }
                pool.giveBack(5);
            }
            if (this == CROWDED) {
                pool.changeMost(12);
                for (int squirrel = 0; squirrel < 20; squirrel++) {
                    pool.ask(squirrel, 1);
                }
                for (int i = 0; i < 60; i++) {
                    pool.append('t');
                }
            }
            return pool;
        }
    }
}
