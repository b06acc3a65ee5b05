/** Tells all that can be seen of an object, wrong arguments too; none of these calls changes anything. */
final class View {
    private static final String[] OF_NOTHING = {
        "livingByGoing", "livingByAccount", "idle", "leasedByConnections", "leasedBySquirrels", "nextLent", "waiting",
        "most", "leastIdle", "ageLimit", "restLimit", "leaseLimit", "patience", "isLastFirst", "ticksToClose", "time",
        "opened", "lendings", "impatient", "served", "waited", "hits", "misses", "hitShare", "savedStates",
        "firstError", "digest"};
    private static final String[] OF_PLACES = {
        "numberAt", "ageAt", "isIdle", "isBroken", "squirrelAt", "sinceAt", "turnOf", "lendingsOf", "nutsIn"};
    private static final String[] OF_SQUIRRELS = {
        "has", "placeOf", "leaseLeft", "isWaiting", "waitOf", "queueOf", "ticksToServe"};
    private static final String[] OF_NUTS = {"wouldHit", "idleWith"};

    private View() {
    }

    static String of(Object object) {
        StringBuilder text = new StringBuilder();
        for (String name : OF_NOTHING) {
            line(text, object, name);
        }
        for (String name : OF_PLACES) {
            lines(text, object, name, 13);
        }
        for (String name : OF_SQUIRRELS) {
            lines(text, object, name, 20);
        }
        for (String name : OF_NUTS) {
            lines(text, object, name, 30);
        }
        lines(text, object, "waiterAt", 20);
        lines(text, object, "closedFor", 5);
        for (int place = -1; place <= 12; place++) {
            for (int ago = -1; ago <= 4; ago++) {
                line(text, object, "nutAt", place, ago);
            }
        }
        return text.toString();
    }

    private static void lines(StringBuilder text, Object object, String name, int beyond) {
        for (int argument = -1; argument <= beyond; argument++) {
            line(text, object, name, argument);
        }
        line(text, object, name, Integer.MIN_VALUE);
        line(text, object, name, Integer.MAX_VALUE);
    }

    private static void line(StringBuilder text, Object object, String name, int... arguments) {
        text.append(Caller.answerTo(object, name, arguments)).append('\n');
    }

    /** The first line in which two views differ, of the one and of the other. */
    static String difference(String one, String other) {
        String[] ones = one.split("\n");
        String[] others = other.split("\n");
        for (int i = 0; i < Math.min(ones.length, others.length); i++) {
            if (!ones[i].equals(others[i])) {
                return "[" + ones[i] + "] against [" + others[i] + "]";
            }
        }
        return "none";
    }
}
