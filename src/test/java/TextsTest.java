import java.util.ArrayList;
import java.util.HashSet;
import java.util.LinkedHashSet;
import java.util.List;
import java.util.Set;

/**
 * Writes out every part that a course may have, and holds firstError() and play() against that: each beginning of a
 * part with each character behind it, as the first part and as the second one.
 */
final class TextsTest {
    private static final int LEAST_CODE = 33;
    private static final int GREATEST_CODE = 126;
    private static final int CODES_ON_ONE_OBJECT = 30;

    private final Tally tally = new Tally("TextsTest");
    private final Set<String> parts = new LinkedHashSet<>();
    private final Set<String> beginnings = new LinkedHashSet<>();

    private TextsTest() {
        for (int squirrel = 0; squirrel < 20; squirrel++) {
            parts.add("g" + squirrel);
            parts.add("l" + squirrel);
            for (int urgency = 0; urgency <= 2; urgency++) {
                parts.add("a" + squirrel + "!" + urgency);
            }
            for (int nut = 0; nut <= 29; nut++) {
                parts.add("u" + squirrel + ":" + nut);
            }
        }
        for (int ticks = 1; ticks <= 100; ticks++) {
            parts.add("t" + ticks);
        }
        for (String part : parts) {
            for (int length = 0; length <= part.length(); length++) {
                beginnings.add(part.substring(0, length));
            }
        }
    }

    public static void main(String[] args) {
        TextsTest test = new TextsTest();
        for (String beginning : test.beginnings) {
            test.checkCodesBehind("", beginning);
            test.checkCodesBehind("t1;", beginning);
            test.checkPlaying("", beginning);
            test.checkPlaying("t1;", beginning);
        }
        test.checkAllParts();
        test.checkLengths();
        test.tally.end();
    }

    private static void type(SquirrelPool pool, String text) {
        for (char code : text.toCharArray()) {
            pool.append(code);
        }
    }

    private void checkCodesBehind(String ahead, String beginning) {
        SquirrelPool pool = new SquirrelPool();
        for (int code = LEAST_CODE; code <= GREATEST_CODE; code++) {
            if (code % CODES_ON_ONE_OBJECT == 0) {
                pool = new SquirrelPool();
            }
            type(pool, ahead + beginning);
            pool.append(code);
            String text = ahead + beginning + (char) code;
            boolean isRight = beginnings.contains(beginning + (char) code) || code == ';' && parts.contains(beginning);
            int due = isRight ? text.length() : text.length() - 1;
            int got = pool.firstError();
            tally.check(got == due, "firstError of " + text + " is " + got + ", due is " + due);
            pool.clearBuffer();
        }
    }

    /** A whole part is a course, which may fail; a beginning that is no whole part is none. */
    private void checkPlaying(String ahead, String beginning) {
        SquirrelPool pool = new SquirrelPool();
        type(pool, ahead + beginning);
        String got = new Call("play").on(pool);
        boolean isRefused = got.equals("! IllegalArgumentException");
        tally.check(isRefused != parts.contains(beginning), "play of " + ahead + beginning + ": " + got);
    }

    /** What each part tells is done as its call does it: the digest, which tells of the saved state too, is the same. */
    private void checkAllParts() {
        for (String part : parts) {
            String[] numbers = part.substring(1).split("[!:]");
            int[] arguments = new int[numbers.length];
            for (int i = 0; i < numbers.length; i++) {
                arguments[i] = Integer.parseInt(numbers[i]);
            }
            String name = switch (part.charAt(0)) {
                case 'a' -> "ask";
                case 'g' -> "giveBack";
                case 'l' -> "leave";
                case 'u' -> "use";
                default -> "tick";
            };
            for (int leased = 0; leased <= 20; leased += 10) {
                checkPart(part, new Call(name, arguments), leased);
            }
        }
    }

    private void checkPart(String part, Call call, int leased) {
        SquirrelPool one = new SquirrelPool();
        SquirrelPool other = new SquirrelPool();
        for (int squirrel = leased == 20 ? 10 : 0; squirrel < leased; squirrel++) {
            one.ask(squirrel, squirrel % 3);
            other.ask(squirrel, squirrel % 3);
        }
        type(one, part);
        boolean isRefused = call.on(other).startsWith("!");
        String got = new Call("play").on(one);
        tally.check(isRefused == got.equals("! IllegalStateException"), "play of " + part + ": " + got);
        if (isRefused) {
            one.clearBuffer();
        }
        tally.check(one.digest() == other.digest(), "play of " + part + " does not do what " + call + " does");
    }

    /** One character after the other, up to a full buffer; and an error at each place of it. */
    private void checkLengths() {
        List<String> courses = new ArrayList<>(List.of("t1;", "a0!0;g0;", "u19:29;t100;", "l19;a7!2;"));
        Set<Integer> places = new HashSet<>();
        for (String course : courses) {
            String text = course.repeat(30).substring(0, 60);
            for (int at = 0; at < 60; at++) {
                SquirrelPool pool = new SquirrelPool();
                type(pool, text.substring(0, at) + "x" + text.substring(at + 1));
                tally.check(pool.firstError() == at, "an error at " + at + " of " + course);
                places.add(pool.firstError());
                pool.clearBuffer();
                type(pool, text.substring(0, at));
                tally.check(pool.firstError() == at, "no error in " + at + " characters of " + course);
            }
        }
        tally.check(places.size() == 60, "errors at " + places);
    }
}
