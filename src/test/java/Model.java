import java.util.ArrayList;
import java.util.IdentityHashMap;
import java.util.LinkedList;
import java.util.List;
import java.util.Map;
import java.util.regex.Matcher;
import java.util.regex.Pattern;

/**
 * The document once more, with lists of the Java library and without regard to room: the program is held against it.
 * Its methods bear the names of the face, so that both can be called by name.
 */
final class Model {
    private static final Pattern COURSE;

    static {
        String squirrel = "(?:1[0-9]|[0-9])";
        String nut = "(?:[12][0-9]|[0-9])";
        String part = "(?:a" + squirrel + "![0-2]|g" + squirrel + "|l" + squirrel + "|u" + squirrel + ":" + nut
                + "|t(?:100|[1-9][0-9]|[1-9]))";
        COURSE = Pattern.compile(part + "(?:;" + part + ")*");
    }

    private static final class Conn {
        int number;
        int born;
        int since;
        int holder = -1;
        int lent;
        boolean broken;
        LinkedList<Integer> nuts = new LinkedList<>();
    }

    private static final class Waiter {
        int squirrel;
        int urgency;
        int from;
    }

    private static final class World {
        int[] settings = {8, 0, 200, 60, 40, 20};
        boolean lastFirst = true;
        int time;
        int opened;
        int[] closed = new int[5];
        int lendings;
        int impatient;
        int served;
        int waited;
        int hits;
        int misses;
        List<Conn> conns = new ArrayList<>();
        List<Conn> idle = new ArrayList<>();
        List<Waiter> queue = new ArrayList<>();

        World copy() {
            World w = new World();
            w.settings = settings.clone();
            w.lastFirst = lastFirst;
            w.time = time;
            w.opened = opened;
            w.closed = closed.clone();
            w.lendings = lendings;
            w.impatient = impatient;
            w.served = served;
            w.waited = waited;
            w.hits = hits;
            w.misses = misses;
            Map<Conn, Conn> twins = new IdentityHashMap<>();
            for (Conn c : conns) {
                Conn twin = new Conn();
                twin.number = c.number;
                twin.born = c.born;
                twin.since = c.since;
                twin.holder = c.holder;
                twin.lent = c.lent;
                twin.broken = c.broken;
                twin.nuts = new LinkedList<>(c.nuts);
                twins.put(c, twin);
                w.conns.add(twin);
            }
            for (Conn c : idle) {
                w.idle.add(twins.get(c));
            }
            for (Waiter a : queue) {
                Waiter b = new Waiter();
                b.squirrel = a.squirrel;
                b.urgency = a.urgency;
                b.from = a.from;
                w.queue.add(b);
            }
            return w;
        }

        Conn of(int squirrel) {
            return conns.stream().filter(c -> c.holder == squirrel).findFirst().orElse(null);
        }

        Waiter waiter(int squirrel) {
            return queue.stream().filter(q -> q.squirrel == squirrel).findFirst().orElse(null);
        }

        void close(Conn c, int cause) {
            conns.remove(c);
            idle.remove(c);
            closed[cause]++;
        }

        Conn open() {
            Conn c = new Conn();
            c.number = ++opened;
            c.born = time;
            c.since = time;
            conns.add(c);
            return c;
        }

        Conn next() {
            return idle.get(lastFirst ? idle.size() - 1 : 0);
        }

        boolean lend(int squirrel) {
            while (!idle.isEmpty() && next().broken) {
                close(next(), 2);
            }
            Conn c;
            if (!idle.isEmpty()) {
                c = next();
                idle.remove(c);
            } else if (conns.size() < settings[0]) {
                c = open();
            } else {
                return false;
            }
            c.holder = squirrel;
            c.since = time;
            c.lent++;
            lendings++;
            return true;
        }

        int serve() {
            int many = 0;
            while (!queue.isEmpty() && lend(queue.get(0).squirrel)) {
                Waiter w = queue.remove(0);
                served++;
                waited += time - w.from;
                many++;
            }
            return many;
        }

        int tick() {
            time++;
            for (Waiter w : new ArrayList<>(queue)) {
                if (time - w.from >= settings[5]) {
                    queue.remove(w);
                    impatient++;
                }
            }
            for (Conn c : new ArrayList<>(conns)) {
                if (c.holder >= 0 && time - c.since >= settings[4]) {
                    close(c, 3);
                }
            }
            for (Conn c : new ArrayList<>(idle)) {
                if (time - c.born >= settings[2]) {
                    close(c, 0);
                }
            }
            while (idle.size() > settings[1] && time - idle.get(0).since >= settings[3]) {
                close(idle.get(0), 1);
            }
            int many = serve();
            while (idle.size() < settings[1] && conns.size() < settings[0]) {
                idle.add(open());
            }
            return many;
        }

        boolean ask(int squirrel, int urgency) {
            if (of(squirrel) != null || waiter(squirrel) != null) {
                throw new IllegalStateException();
            }
            if (queue.isEmpty() && lend(squirrel)) {
                return true;
            }
            Waiter w = new Waiter();
            w.squirrel = squirrel;
            w.urgency = urgency;
            w.from = time;
            int at = 0;
            while (at < queue.size() && queue.get(at).urgency >= urgency) {
                at++;
            }
            queue.add(at, w);
            return false;
        }

        boolean giveBack(int squirrel) {
            Conn c = of(squirrel);
            if (c == null) {
                throw new IllegalStateException();
            }
            if (c.broken) {
                close(c, 2);
            } else if (time - c.born >= settings[2]) {
                close(c, 0);
            } else {
                c.holder = -1;
                c.since = time;
                idle.add(c);
            }
            return serve() > 0;
        }

        int leave(int squirrel) {
            Waiter w = waiter(squirrel);
            if (w == null) {
                throw new IllegalStateException();
            }
            queue.remove(w);
            return time - w.from;
        }

        boolean use(int squirrel, int nut) {
            Conn c = of(squirrel);
            if (c == null) {
                throw new IllegalStateException();
            }
            boolean hit = c.nuts.remove((Integer) nut);
            c.nuts.addFirst(nut);
            if (c.nuts.size() == 5) {
                c.nuts.removeLast();
            }
            if (hit) {
                hits++;
            } else {
                misses++;
            }
            return hit;
        }

        int closedInAll() {
            int sum = 0;
            for (int many : closed) {
                sum += many;
            }
            return sum;
        }
    }

    private World w = new World();
    private final LinkedList<World> saved = new LinkedList<>();
    private final World[] slots = new World[2];
    private String buffer = "";

    private void save() {
        saved.addLast(w.copy());
        if (saved.size() == 7) {
            saved.removeFirst();
        }
    }

    private static void squirrelIn(int squirrel) {
        if (squirrel < 0 || squirrel > 19) {
            throw new IndexOutOfBoundsException();
        }
    }

    private static void in(int value, int least, int greatest) {
        if (value < least || value > greatest) {
            throw new IllegalArgumentException();
        }
    }

    private Conn at(int place) {
        if (place < 0 || place >= w.conns.size()) {
            throw new IndexOutOfBoundsException();
        }
        return w.conns.get(place);
    }

    private static void state(boolean holds) {
        if (!holds) {
            throw new IllegalStateException();
        }
    }

    boolean ask(int squirrel, int urgency) {
        squirrelIn(squirrel);
        in(urgency, 0, 2);
        state(w.of(squirrel) == null && w.waiter(squirrel) == null);
        save();
        return w.ask(squirrel, urgency);
    }

    boolean giveBack(int squirrel) {
        squirrelIn(squirrel);
        state(w.of(squirrel) != null);
        save();
        return w.giveBack(squirrel);
    }

    int leave(int squirrel) {
        squirrelIn(squirrel);
        state(w.waiter(squirrel) != null);
        save();
        return w.leave(squirrel);
    }

    boolean use(int squirrel, int nut) {
        squirrelIn(squirrel);
        in(nut, 0, 29);
        state(w.of(squirrel) != null);
        save();
        return w.use(squirrel, nut);
    }

    boolean breakOff(int place) {
        at(place);
        save();
        boolean whole = !at(place).broken;
        at(place).broken = true;
        return whole;
    }

    int tick(int ticks) {
        in(ticks, 1, 100);
        save();
        int many = 0;
        for (int i = 0; i < ticks; i++) {
            many += w.tick();
        }
        return many;
    }

    private int change(int setting, int many, int least, int greatest) {
        in(many, least, greatest);
        save();
        int before = w.settings[setting];
        w.settings[setting] = many;
        return before;
    }

    int changeMost(int many) {
        int before = change(0, many, 1, 12);
        while (w.conns.size() > many && !w.idle.isEmpty()) {
            w.close(w.idle.get(0), 4);
        }
        return before;
    }

    int changeIdle(int many) {
        return change(1, many, 0, 6);
    }

    int changeAge(int many) {
        return change(2, many, 5, 999);
    }

    int changeRest(int many) {
        return change(3, many, 1, 999);
    }

    int changeLease(int many) {
        return change(4, many, 1, 999);
    }

    int changePatience(int many) {
        return change(5, many, 1, 99);
    }

    boolean turnOrder() {
        save();
        w.lastFirst = !w.lastFirst;
        return w.lastFirst;
    }

    int append(int code) {
        in(code, 33, 126);
        state(buffer.length() < 60);
        buffer += (char) code;
        return buffer.length();
    }

    int clearBuffer() {
        int before = buffer.length();
        buffer = "";
        return before;
    }

    int firstError() {
        for (int length = 1; length <= buffer.length(); length++) {
            Matcher matcher = COURSE.matcher(buffer.substring(0, length));
            if (!matcher.matches() && !matcher.hitEnd()) {
                return length - 1;
            }
        }
        return buffer.length();
    }

    int play() {
        if (!COURSE.matcher(buffer).matches()) {
            throw new IllegalArgumentException();
        }
        World next = w.copy();
        for (String part : buffer.split(";")) {
            String[] numbers = part.substring(1).split("[!:]");
            int first = Integer.parseInt(numbers[0]);
            switch (part.charAt(0)) {
                case 'a' -> next.ask(first, Integer.parseInt(numbers[1]));
                case 'g' -> next.giveBack(first);
                case 'l' -> next.leave(first);
                case 'u' -> next.use(first, Integer.parseInt(numbers[1]));
                default -> {
                    for (int i = 0; i < first; i++) {
                        next.tick();
                    }
                }
            }
        }
        save();
        w = next;
        buffer = "";
        return w.conns.size();
    }

    void keep(int slot) {
        in(slot, 0, 1);
        slots[slot] = w.copy();
    }

    void goBack(int slot) {
        in(slot, 0, 1);
        state(slots[slot] != null);
        save();
        w = slots[slot].copy();
    }

    void undo() {
        state(!saved.isEmpty());
        w = saved.removeLast();
    }

    int savedStates() {
        return saved.size();
    }

    int livingByGoing() {
        return w.conns.size();
    }

    int livingByAccount() {
        return w.opened - w.closedInAll();
    }

    int numberAt(int place) {
        return at(place).number;
    }

    int ageAt(int place) {
        return w.time - at(place).born;
    }

    boolean isIdle(int place) {
        return w.idle.contains(at(place));
    }

    boolean isBroken(int place) {
        return at(place).broken;
    }

    int squirrelAt(int place) {
        state(at(place).holder >= 0);
        return at(place).holder;
    }

    int sinceAt(int place) {
        return w.time - at(place).since;
    }

    int turnOf(int place) {
        state(w.idle.contains(at(place)));
        int index = w.idle.indexOf(at(place));
        return w.lastFirst ? w.idle.size() - 1 - index : index;
    }

    int lendingsOf(int place) {
        return at(place).lent;
    }

    int nutsIn(int place) {
        return at(place).nuts.size();
    }

    int nutAt(int place, int ago) {
        if (ago < 0 || ago >= at(place).nuts.size()) {
            throw new IndexOutOfBoundsException();
        }
        return at(place).nuts.get(ago);
    }

    int idle() {
        return w.idle.size();
    }

    int leasedByConnections() {
        return w.conns.size() - w.idle.size();
    }

    int leasedBySquirrels() {
        return (int) w.conns.stream().filter(c -> c.holder >= 0).count();
    }

    int nextLent() {
        state(!w.idle.isEmpty());
        return w.conns.indexOf(w.next());
    }

    boolean has(int squirrel) {
        squirrelIn(squirrel);
        return w.of(squirrel) != null;
    }

    int placeOf(int squirrel) {
        squirrelIn(squirrel);
        state(w.of(squirrel) != null);
        return w.conns.indexOf(w.of(squirrel));
    }

    /** Found by letting ticks go by, until the connection is closed. */
    int leaseLeft(int squirrel) {
        squirrelIn(squirrel);
        state(w.of(squirrel) != null);
        int number = w.of(squirrel).number;
        World next = w.copy();
        int ticks = 0;
        while (next.conns.stream().anyMatch(c -> c.number == number)) {
            next.tick();
            ticks++;
        }
        return ticks;
    }

    boolean isWaiting(int squirrel) {
        squirrelIn(squirrel);
        return w.waiter(squirrel) != null;
    }

    int waitOf(int squirrel) {
        squirrelIn(squirrel);
        state(w.waiter(squirrel) != null);
        return w.time - w.waiter(squirrel).from;
    }

    int queueOf(int squirrel) {
        squirrelIn(squirrel);
        state(w.waiter(squirrel) != null);
        return w.queue.indexOf(w.waiter(squirrel));
    }

    int waiting() {
        return w.queue.size();
    }

    int waiterAt(int place) {
        if (place < 0 || place >= w.queue.size()) {
            throw new IndexOutOfBoundsException();
        }
        return w.queue.get(place).squirrel;
    }

    int most() {
        return w.settings[0];
    }

    int leastIdle() {
        return w.settings[1];
    }

    int ageLimit() {
        return w.settings[2];
    }

    int restLimit() {
        return w.settings[3];
    }

    int leaseLimit() {
        return w.settings[4];
    }

    int patience() {
        return w.settings[5];
    }

    boolean isLastFirst() {
        return w.lastFirst;
    }

    int ticksToServe(int squirrel) {
        squirrelIn(squirrel);
        state(w.waiter(squirrel) != null);
        World next = w.copy();
        int ticks = 0;
        while (next.waiter(squirrel) != null) {
            next.tick();
            ticks++;
        }
        return next.of(squirrel) != null ? ticks : 0;
    }

    int ticksToClose() {
        World next = w.copy();
        for (int ticks = 1; ticks <= 999; ticks++) {
            next.tick();
            if (next.closedInAll() > w.closedInAll()) {
                return ticks;
            }
        }
        return 0;
    }

    boolean wouldHit(int nut) {
        in(nut, 0, 29);
        state(!w.idle.isEmpty());
        return !w.next().broken && w.next().nuts.contains(nut);
    }

    int idleWith(int nut) {
        in(nut, 0, 29);
        return (int) w.idle.stream().filter(c -> c.nuts.contains(nut)).count();
    }

    int time() {
        return w.time;
    }

    int opened() {
        return w.opened;
    }

    int closedFor(int cause) {
        in(cause, 0, 4);
        return w.closed[cause];
    }

    int lendings() {
        return w.lendings;
    }

    int impatient() {
        return w.impatient;
    }

    int served() {
        return w.served;
    }

    int waited() {
        return w.waited;
    }

    int hits() {
        return w.hits;
    }

    int misses() {
        return w.misses;
    }

    double hitShare() {
        return w.hits + w.misses == 0 ? 0.0 : (double) w.hits / (w.hits + w.misses);
    }

    long digest() {
        List<Long> v = new ArrayList<>();
        v.add((long) livingByGoing());
        v.add((long) livingByAccount());
        for (int p = 0; p < w.conns.size(); p++) {
            digestPlace(v, p);
        }
        v.add((long) idle());
        v.add((long) leasedByConnections());
        v.add((long) leasedBySquirrels());
        v.add(w.idle.isEmpty() ? 0L : nextLent() + 1L);
        for (int s = 0; s < 20; s++) {
            v.add(has(s) ? placeOf(s) + 1L : 0L);
            v.add(has(s) ? (long) leaseLeft(s) : 0L);
            v.add(isWaiting(s) ? queueOf(s) + 1L : 0L);
            v.add(isWaiting(s) ? (long) waitOf(s) : 0L);
        }
        v.add((long) waiting());
        for (int setting : w.settings) {
            v.add((long) setting);
        }
        v.add(w.lastFirst ? 1L : 0L);
        v.add((long) w.time);
        v.add((long) w.opened);
        for (int many : w.closed) {
            v.add((long) many);
        }
        int[] rest = {w.lendings, w.impatient, w.served, w.waited, w.hits, w.misses, saved.size()};
        for (int value : rest) {
            v.add((long) value);
        }
        v.add(Double.doubleToLongBits(hitShare()));
        for (World slot : slots) {
            v.add(slot != null ? 1L : 0L);
        }
        v.add((long) buffer.length());
        for (char c : buffer.toCharArray()) {
            v.add((long) c);
        }
        long hash = 4363;
        for (long value : v) {
            hash = 31 * hash + value;
        }
        return hash;
    }

    private void digestPlace(List<Long> v, int p) {
        v.add((long) numberAt(p));
        v.add((long) ageAt(p));
        v.add(isIdle(p) ? 1L : 0L);
        v.add(isBroken(p) ? 1L : 0L);
        v.add(isIdle(p) ? 0L : squirrelAt(p) + 1L);
        v.add((long) sinceAt(p));
        v.add(isIdle(p) ? turnOf(p) + 1L : 0L);
        v.add((long) lendingsOf(p));
        v.add((long) nutsIn(p));
        for (int ago = 0; ago < nutsIn(p); ago++) {
            v.add((long) nutAt(p, ago));
        }
    }
}
