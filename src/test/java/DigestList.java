import java.util.ArrayList;
import java.util.List;

/** Sums up what the other calls tell of an object, in the order of the document's list: the digest that is due. */
final class DigestList {
    private static final String SETTINGS = "waiting most leastIdle ageLimit restLimit leaseLimit patience isLastFirst";
    private static final String REST = "lendings impatient served waited hits misses savedStates";

    private final Object pool;
    private final List<Long> values = new ArrayList<>();

    private DigestList(Object pool) {
        this.pool = pool;
    }

    /** The hash; what no call tells, the slots and the buffer, is told by the caller. */
    static long hash(Object pool, boolean[] kept, String buffer) {
        DigestList list = new DigestList(pool);
        list.addConnections();
        list.addSquirrels();
        list.addSettingsAndAccounts();
        list.values.add(Double.doubleToLongBits(Double.parseDouble(new Call("hitShare").on(pool))));
        for (boolean isKept : kept) {
            list.values.add(isKept ? 1L : 0L);
        }
        list.values.add((long) buffer.length());
        for (char code : buffer.toCharArray()) {
            list.values.add((long) code);
        }
        long hash = 4363;
        for (long value : list.values) {
            hash = 31 * hash + value;
        }
        return hash;
    }

    private void addConnections() {
        add("livingByGoing");
        add("livingByAccount");
        int many = Integer.parseInt(new Call("livingByGoing").on(pool));
        for (int place = 0; place < many; place++) {
            addConnection(place);
        }
        add("idle");
        add("leasedByConnections");
        add("leasedBySquirrels");
        addAndOne("nextLent");
    }

    private void addConnection(int place) {
        add("numberAt", place);
        add("ageAt", place);
        add("isIdle", place);
        add("isBroken", place);
        addAndOne("squirrelAt", place);
        add("sinceAt", place);
        addAndOne("turnOf", place);
        add("lendingsOf", place);
        add("nutsIn", place);
        int nuts = Integer.parseInt(new Call("nutsIn", place).on(pool));
        for (int ago = 0; ago < nuts; ago++) {
            add("nutAt", place, ago);
        }
    }

    private void addSquirrels() {
        for (int squirrel = 0; squirrel < 20; squirrel++) {
            addAndOne("placeOf", squirrel);
            add("leaseLeft", squirrel);
            addAndOne("queueOf", squirrel);
            add("waitOf", squirrel);
        }
    }

    private void addSettingsAndAccounts() {
        for (String name : SETTINGS.split(" ")) {
            add(name);
        }
        add("time");
        add("opened");
        for (int cause = 0; cause < 5; cause++) {
            add("closedFor", cause);
        }
        for (String name : REST.split(" ")) {
            add(name);
        }
    }

    /** The answer as a number; 0 for a call that throws. */
    private void add(String name, int... arguments) {
        String answer = new Call(name, arguments).on(pool);
        boolean isZero = answer.startsWith("!") || answer.equals("false");
        values.add(isZero ? 0L : answer.equals("true") ? 1L : Long.parseLong(answer));
    }

    /** The answer and 1, together; 0 for a call that throws. */
    private void addAndOne(String name, int... arguments) {
        String answer = new Call(name, arguments).on(pool);
        values.add(answer.startsWith("!") ? 0L : Long.parseLong(answer) + 1);
    }
}
