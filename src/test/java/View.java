import java.util.ArrayList;
import java.util.List;
import java.util.function.Supplier;

/** Tells all that can be seen of an object, wrong arguments too; none of these calls changes anything. */
final class View {
    private static final String[] OF_NOTHING = {
        "livingByGoing", "livingByAccount", "idle", "leasedByConnections", "leasedBySquirrels", "nextLent", "waiting",
        "most", "leastIdle", "ageLimit", "restLimit", "leaseLimit", "patience", "isLastFirst", "ticksToClose", "time",
        "opened", "lendings", "impatient", "served", "waited", "hits", "misses", "hitShare", "savedStates",
        "firstError", "digest"};
    private static final String[] OF_PLACES = {
        "numberAt", "ageAt", "isIdle", "isBroken", "squirrelAt", "sinceAt", "turnOf", "lendingsOf", "nutsIn"};
    private static final String[] OF_SQUIRRELS = {
        "has", "placeOf", "leaseLeft", "isWaiting", "waitOf", "queueOf", "ticksToServe"};
    private static final String[] OF_NUTS = {"wouldHit", "idleWith"};
    private static final List<Call> QUESTIONS = questions();
    // So many are put to one object, as an object is used for a few hundred calls at the most.
    private static final int AT_ONCE = 180;

    private View() {
    }

    /** The answers of objects that stand alike; the maker makes as many of them as are needed. */
    static String of(Supplier<Object> maker) {
        StringBuilder text = new StringBuilder();
        Object object = null;
        for (int i = 0; i < QUESTIONS.size(); i++) {
            if (i % AT_ONCE == 0) {
                object = maker.get();
            }
            text.append(QUESTIONS.get(i)).append(" = ").append(QUESTIONS.get(i).on(object)).append('\n');
        }
        return text.toString();
    }

    /** The same, without what is no part of a saved state: the saved states, and what tells of the buffer. */
    static String ofState(Supplier<Object> maker) {
        return of(maker).replaceAll("(?m)^(savedStates|firstError|digest) = .*\\R", "");
    }

    private static List<Call> questions() {
        List<Call> all = new ArrayList<>();
        for (String name : OF_NOTHING) {
            all.add(new Call(name));
        }
        for (String name : OF_PLACES) {
            addAll(all, name, 13);
        }
        for (String name : OF_SQUIRRELS) {
            addAll(all, name, 20);
        }
        for (String name : OF_NUTS) {
            addAll(all, name, 30);
        }
        addAll(all, "waiterAt", 20);
        addAll(all, "closedFor", 5);
        for (int place = -1; place <= 12; place++) {
            for (int ago = -1; ago <= 4; ago++) {
                all.add(new Call("nutAt", place, ago));
            }
        }
        return all;
    }

    private static void addAll(List<Call> all, String name, int beyond) {
        for (int argument = -1; argument <= beyond; argument++) {
            all.add(new Call(name, argument));
        }
        all.add(new Call(name, Integer.MIN_VALUE));
        all.add(new Call(name, Integer.MAX_VALUE));
    }

    /** The first line in which two views differ, of the one and of the other. */
    static String difference(String one, String other) {
        String[] ones = one.split("\n");
        String[] others = other.split("\n");
        for (int i = 0; i < Math.min(ones.length, others.length); i++) {
            if (!ones[i].equals(others[i])) {
                return "[" + ones[i] + "] against [" + others[i] + "]";
            }
        }
        return "none";
    }
}
