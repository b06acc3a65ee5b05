/** A pool of connections that squirrels lease; the promises that it keeps stand in ../shared/DOC.md. */
public final class SquirrelPool {
    private static final int SQUIRRELS = 20;
    private static final int PLACES = 12;
    private static final int GREATEST_URGENCY = 2;
    private static final int GREATEST_NUT = 29;
    private static final int NUTS_KEPT = 4;
    private static final int GREATEST_TICKS = 100;
    private static final int GREATEST_PATIENCE = 99;
    private static final int GREATEST_LIMIT = 999;
    private static final int LEAST_AGE_LIMIT = 5;
    private static final int GREATEST_IDLE = 6;
    private static final int SLOTS = 2;
    private static final int STATES_SAVED = 6;
    private static final int BUFFER_SIZE = 60;
    private static final int NONE = -1;

    private static final int TOO_OLD = 0;
    private static final int IDLE_TOO_LONG = 1;
    private static final int BROKEN = 2;
    private static final int TAKEN_AWAY = 3;
    private static final int TOO_MANY = 4;
    private static final int CAUSES = 5;

    private static final long HASH_START = 4363L;
    private static final int EXPONENT_OF_ONE = 1023;
    private static final int FRACTION_BITS = 52;

    private final State now;
    // What would be is tried on this one, and a course too, so that the pool stays as it is if it fails.
    private final State trial;
    private final State[] slots;
    private final boolean[] isKept;
    private final History history;
    private final Course course;

    public SquirrelPool() {
        now = new State();
        trial = new State();
        slots = new State[SLOTS];
        for (int slot = 0; slot < SLOTS; slot++) {
            slots[slot] = new State();
        }
        isKept = new boolean[SLOTS];
        history = new History();
        course = new Course();
    }

    // ---- squirrels

    public boolean ask(int squirrel, int urgency)
            throws IndexOutOfBoundsException, IllegalArgumentException, IllegalStateException {
        checkSquirrel(squirrel);
        checkRange(urgency, 0, GREATEST_URGENCY);
        if (now.isBusy(squirrel)) {
            throw new IllegalStateException("the squirrel has a connection, or waits for one");
        }
        history.save(now);
        return now.letAsk(squirrel, urgency);
    }

    public boolean giveBack(int squirrel) throws IndexOutOfBoundsException, IllegalStateException {
        int place = placeWanted(squirrel);
        history.save(now);
        return now.takeBack(place);
    }

    public int leave(int squirrel) throws IndexOutOfBoundsException, IllegalStateException {
        int place = queuePlaceWanted(squirrel);
        history.save(now);
        return now.letLeave(place);
    }

    public boolean use(int squirrel, int nut)
            throws IndexOutOfBoundsException, IllegalArgumentException, IllegalStateException {
        checkSquirrel(squirrel);
        checkRange(nut, 0, GREATEST_NUT);
        int place = placeWanted(squirrel);
        history.save(now);
        return now.letUse(place, nut);
    }

    // ---- connections, ticks, settings

    public boolean breakOff(int place) throws IndexOutOfBoundsException {
        checkPlace(place);
        history.save(now);
        Connection connection = now.places[place];
        boolean wasWhole = !connection.broken;
        connection.broken = true;
        return wasWhole;
    }

    public int tick(int ticks) throws IllegalArgumentException {
        checkRange(ticks, 1, GREATEST_TICKS);
        history.save(now);
        return now.passTicks(ticks);
    }

    public int changeMost(int many) throws IllegalArgumentException {
        checkRange(many, 1, PLACES);
        history.save(now);
        int before = now.settings.most;
        now.settings.most = many;
        now.closeTooMany();
        return before;
    }

    public int changeIdle(int many) throws IllegalArgumentException {
        checkRange(many, 0, GREATEST_IDLE);
        history.save(now);
        int before = now.settings.leastIdle;
        now.settings.leastIdle = many;
        return before;
    }

    public int changeAge(int many) throws IllegalArgumentException {
        checkRange(many, LEAST_AGE_LIMIT, GREATEST_LIMIT);
        history.save(now);
        int before = now.settings.ageLimit;
        now.settings.ageLimit = many;
        return before;
    }

    public int changeRest(int many) throws IllegalArgumentException {
        checkRange(many, 1, GREATEST_LIMIT);
        history.save(now);
        int before = now.settings.restLimit;
        now.settings.restLimit = many;
        return before;
    }

    public int changeLease(int many) throws IllegalArgumentException {
        checkRange(many, 1, GREATEST_LIMIT);
        history.save(now);
        int before = now.settings.leaseLimit;
        now.settings.leaseLimit = many;
        return before;
    }

    public int changePatience(int many) throws IllegalArgumentException {
        checkRange(many, 1, GREATEST_PATIENCE);
        history.save(now);
        int before = now.settings.patience;
        now.settings.patience = many;
        return before;
    }

    public boolean turnOrder() {
        history.save(now);
        now.settings.lastFirst = !now.settings.lastFirst;
        return now.settings.lastFirst;
    }

    // ---- texts

    public int append(int code) throws IllegalArgumentException, IllegalStateException {
        checkRange(code, 33, 126);
        if (course.length >= BUFFER_SIZE) {
            throw new IllegalStateException("the buffer is full");
        }
        course.add(code);
        return course.length;
    }

    public int clearBuffer() {
        int before = course.length;
        course.length = 0;
        return before;
    }

    public int firstError() {
        return course.read();
    }

    public int play() throws IllegalArgumentException, IllegalStateException {
        if (!course.isWhole()) {
            throw new IllegalArgumentException("the buffer does not tell a course");
        }
        trial.copyFrom(now);
        for (int part = 0; part < course.parts; part++) {
            if (!trial.follow(course.kinds[part], course.firsts[part], course.seconds[part])) {
                throw new IllegalStateException("the course cannot be played");
            }
        }
        history.save(now);
        now.copyFrom(trial);
        course.length = 0;
        return now.living;
    }

    // ---- snapshots, undo

    public void keep(int slot) throws IllegalArgumentException {
        checkRange(slot, 0, SLOTS - 1);
        slots[slot].copyFrom(now);
        isKept[slot] = true;
    }

    public void goBack(int slot) throws IllegalArgumentException, IllegalStateException {
        checkRange(slot, 0, SLOTS - 1);
        if (!isKept[slot]) {
            throw new IllegalStateException("there is no snapshot in the slot");
        }
        history.save(now);
        now.copyFrom(slots[slot]);
    }

    public void undo() throws IllegalStateException {
        if (history.length == 0) {
            throw new IllegalStateException("no state is saved");
        }
        history.restore(now);
    }

    public int savedStates() {
        return history.length;
    }

    // ---- connections as they are; nothing is changed

    public int livingByGoing() {
        return now.living;
    }

    public int livingByAccount() {
        return now.accounts.opened - now.accounts.closedInAll();
    }

    public int numberAt(int place) throws IndexOutOfBoundsException {
        checkPlace(place);
        return now.places[place].number;
    }

    public int ageAt(int place) throws IndexOutOfBoundsException {
        checkPlace(place);
        return now.time - now.places[place].born;
    }

    public boolean isIdle(int place) throws IndexOutOfBoundsException {
        checkPlace(place);
        return now.places[place].rests();
    }

    public boolean isBroken(int place) throws IndexOutOfBoundsException {
        checkPlace(place);
        return now.places[place].broken;
    }

    public int squirrelAt(int place) throws IndexOutOfBoundsException, IllegalStateException {
        checkPlace(place);
        if (now.places[place].rests()) {
            throw new IllegalStateException("the connection is idle");
        }
        return now.places[place].squirrel;
    }

    public int sinceAt(int place) throws IndexOutOfBoundsException {
        checkPlace(place);
        return now.time - now.places[place].since;
    }

    public int turnOf(int place) throws IndexOutOfBoundsException, IllegalStateException {
        checkPlace(place);
        if (!now.places[place].rests()) {
            throw new IllegalStateException("the connection is not idle");
        }
        return now.turnInIdle(place);
    }

    public int lendingsOf(int place) throws IndexOutOfBoundsException {
        checkPlace(place);
        return now.places[place].timesLent;
    }

    public int nutsIn(int place) throws IndexOutOfBoundsException {
        checkPlace(place);
        return now.places[place].nutCount;
    }

    public int nutAt(int place, int ago) throws IndexOutOfBoundsException {
        checkPlace(place);
        if (ago < 0 || ago >= now.places[place].nutCount) {
            throw new IndexOutOfBoundsException("no such nut");
        }
        return now.places[place].nuts[ago];
    }

    public int idle() {
        return now.countIdle();
    }

    public int leasedByConnections() {
        return now.living - now.countIdle();
    }

    public int leasedBySquirrels() {
        int many = 0;
        for (int squirrel = 0; squirrel < SQUIRRELS; squirrel++) {
            if (now.placeWith(squirrel) != NONE) {
                many++;
            }
        }
        return many;
    }

    public int nextLent() throws IllegalStateException {
        return nextWanted();
    }

    // ---- squirrels as they are; nothing is changed

    public boolean has(int squirrel) throws IndexOutOfBoundsException {
        checkSquirrel(squirrel);
        return now.placeWith(squirrel) != NONE;
    }

    public int placeOf(int squirrel) throws IndexOutOfBoundsException, IllegalStateException {
        return placeWanted(squirrel);
    }

    public int leaseLeft(int squirrel) throws IndexOutOfBoundsException, IllegalStateException {
        return now.leaseRest(placeWanted(squirrel));
    }

    public boolean isWaiting(int squirrel) throws IndexOutOfBoundsException {
        checkSquirrel(squirrel);
        return now.queue.placeIn(squirrel) != NONE;
    }

    public int waitOf(int squirrel) throws IndexOutOfBoundsException, IllegalStateException {
        return now.waitAt(queuePlaceWanted(squirrel));
    }

    public int queueOf(int squirrel) throws IndexOutOfBoundsException, IllegalStateException {
        return queuePlaceWanted(squirrel);
    }

    public int waiting() {
        return now.queue.length;
    }

    public int waiterAt(int place) throws IndexOutOfBoundsException {
        if (place < 0 || place >= now.queue.length) {
            throw new IndexOutOfBoundsException("not so many squirrels wait");
        }
        return now.queue.squirrels[place];
    }

    // ---- settings as they are; nothing is changed

    public int most() {
        return now.settings.most;
    }

    public int leastIdle() {
        return now.settings.leastIdle;
    }

    public int ageLimit() {
        return now.settings.ageLimit;
    }

    public int restLimit() {
        return now.settings.restLimit;
    }

    public int leaseLimit() {
        return now.settings.leaseLimit;
    }

    public int patience() {
        return now.settings.patience;
    }

    public boolean isLastFirst() {
        return now.settings.lastFirst;
    }

    // ---- what would be; nothing is changed

    public int ticksToServe(int squirrel) throws IndexOutOfBoundsException, IllegalStateException {
        queuePlaceWanted(squirrel);
        trial.copyFrom(now);
        // No squirrel waits for longer than the greatest patience.
        for (int ticks = 1; ticks <= GREATEST_PATIENCE; ticks++) {
            trial.passTicks(1);
            if (trial.placeWith(squirrel) != NONE) {
                return ticks;
            }
            if (trial.queue.placeIn(squirrel) == NONE) {
                return 0;
            }
        }
        return 0;
    }

    public int ticksToClose() {
        trial.copyFrom(now);
        int before = trial.accounts.closedInAll();
        for (int ticks = 1; ticks <= GREATEST_LIMIT; ticks++) {
            trial.passTicks(1);
            if (trial.accounts.closedInAll() != before) {
                return ticks;
            }
        }
        return 0;
    }

    public boolean wouldHit(int nut) throws IllegalArgumentException, IllegalStateException {
        checkRange(nut, 0, GREATEST_NUT);
        Connection next = now.places[nextWanted()];
        return !next.broken && next.holds(nut);
    }

    public int idleWith(int nut) throws IllegalArgumentException {
        checkRange(nut, 0, GREATEST_NUT);
        int many = 0;
        for (int place = 0; place < now.living; place++) {
            if (now.places[place].rests() && now.places[place].holds(nut)) {
                many++;
            }
        }
        return many;
    }

    // ---- accounts; nothing is changed

    public int time() {
        return now.time;
    }

    public int opened() {
        return now.accounts.opened;
    }

    public int closedFor(int cause) throws IllegalArgumentException {
        checkRange(cause, 0, CAUSES - 1);
        return now.accounts.closed[cause];
    }

    public int lendings() {
        return now.accounts.lendings;
    }

    public int impatient() {
        return now.accounts.impatient;
    }

    public int served() {
        return now.accounts.served;
    }

    public int waited() {
        return now.accounts.waited;
    }

    public int hits() {
        return now.accounts.hits;
    }

    public int misses() {
        return now.accounts.misses;
    }

    public double hitShare() {
        return now.accounts.shareOfHits();
    }

    public long digest() {
        Hash hash = new Hash();
        hash.add(livingByGoing());
        hash.add(livingByAccount());
        for (int place = 0; place < now.living; place++) {
            hashConnection(hash, place);
        }
        hash.add(idle());
        hash.add(leasedByConnections());
        hash.add(leasedBySquirrels());
        hash.add(now.placeOfNext() + 1);
        for (int squirrel = 0; squirrel < SQUIRRELS; squirrel++) {
            hashSquirrel(hash, squirrel);
        }
        hash.add(now.queue.length);
        hashSettings(hash);
        hashAccounts(hash);
        for (int slot = 0; slot < SLOTS; slot++) {
            hash.add(isKept[slot] ? 1 : 0);
        }
        hash.add(course.length);
        for (int at = 0; at < course.length; at++) {
            hash.add(course.codes[at]);
        }
        return hash.sum;
    }

    private void hashConnection(Hash hash, int place) {
        Connection connection = now.places[place];
        hash.add(connection.number);
        hash.add(now.time - connection.born);
        hash.add(connection.rests() ? 1 : 0);
        hash.add(connection.broken ? 1 : 0);
        hash.add(connection.squirrel + 1);
        hash.add(now.time - connection.since);
        hash.add(connection.rests() ? now.turnInIdle(place) + 1 : 0);
        hash.add(connection.timesLent);
        hash.add(connection.nutCount);
        for (int ago = 0; ago < connection.nutCount; ago++) {
            hash.add(connection.nuts[ago]);
        }
    }

    private void hashSquirrel(Hash hash, int squirrel) {
        int place = now.placeWith(squirrel);
        hash.add(place + 1);
        hash.add(place == NONE ? 0 : now.leaseRest(place));
        int inQueue = now.queue.placeIn(squirrel);
        hash.add(inQueue + 1);
        hash.add(inQueue == NONE ? 0 : now.waitAt(inQueue));
    }

    private void hashSettings(Hash hash) {
        Settings settings = now.settings;
        hash.add(settings.most);
        hash.add(settings.leastIdle);
        hash.add(settings.ageLimit);
        hash.add(settings.restLimit);
        hash.add(settings.leaseLimit);
        hash.add(settings.patience);
        hash.add(settings.lastFirst ? 1 : 0);
    }

    private void hashAccounts(Hash hash) {
        Accounts accounts = now.accounts;
        hash.add(now.time);
        hash.add(accounts.opened);
        for (int cause = 0; cause < CAUSES; cause++) {
            hash.add(accounts.closed[cause]);
        }
        hash.add(accounts.lendings);
        hash.add(accounts.impatient);
        hash.add(accounts.served);
        hash.add(accounts.waited);
        hash.add(accounts.hits);
        hash.add(accounts.misses);
        hash.add(history.length);
        hash.add(bitsOfShare(accounts.shareOfHits()));
    }

    // The library that this file keeps to has no Double.doubleToLongBits; a share is 0, or above 0 and at most 1.
    private static long bitsOfShare(double share) {
        if (share <= 0.0) {
            return 0L;
        }
        double scaled = share;
        long exponent = EXPONENT_OF_ONE;
        for (int i = 1; i < EXPONENT_OF_ONE && scaled < 1.0; i++) {
            scaled = scaled * 2.0;
            exponent--;
        }
        long fraction = (long) ((scaled - 1.0) * (double) (1L << FRACTION_BITS));
        return (exponent << FRACTION_BITS) + fraction;
    }

    // ---- what calls are tested for before they do anything

    private static void checkSquirrel(int squirrel) {
        if (squirrel < 0 || squirrel >= SQUIRRELS) {
            throw new IndexOutOfBoundsException("no such squirrel");
        }
    }

    private static void checkRange(int value, int least, int greatest) {
        if (value < least || value > greatest) {
            throw new IllegalArgumentException("out of range");
        }
    }

    private void checkPlace(int place) {
        if (place < 0 || place >= now.living) {
            throw new IndexOutOfBoundsException("not so many connections");
        }
    }

    private int placeWanted(int squirrel) {
        checkSquirrel(squirrel);
        int place = now.placeWith(squirrel);
        if (place == NONE) {
            throw new IllegalStateException("the squirrel has no connection");
        }
        return place;
    }

    private int queuePlaceWanted(int squirrel) {
        checkSquirrel(squirrel);
        int place = now.queue.placeIn(squirrel);
        if (place == NONE) {
            throw new IllegalStateException("the squirrel does not wait");
        }
        return place;
    }

    private int nextWanted() {
        int place = now.placeOfNext();
        if (place == NONE) {
            throw new IllegalStateException("no connection is idle");
        }
        return place;
    }

    /** One connection; the objects stay when connections are closed, and serve the next ones. */
    private static final class Connection {
        int number;
        int born;
        boolean broken;
        // NONE while the connection is idle.
        int squirrel;
        int since;
        // Several connections may become idle in one tick, so that the time alone does not order them.
        int idleRank;
        int timesLent;
        int nutCount;
        // The nut that was used last stands first.
        final int[] nuts;

        Connection() {
            squirrel = NONE;
            nuts = new int[NUTS_KEPT];
        }

        void copyFrom(Connection other) {
            number = other.number;
            born = other.born;
            broken = other.broken;
            squirrel = other.squirrel;
            since = other.since;
            idleRank = other.idleRank;
            timesLent = other.timesLent;
            nutCount = other.nutCount;
            System.arraycopy(other.nuts, 0, nuts, 0, NUTS_KEPT);
        }

        boolean rests() {
            return squirrel == NONE;
        }

        int agoOf(int nut) {
            for (int ago = 0; ago < nutCount; ago++) {
                if (nuts[ago] == nut) {
                    return ago;
                }
            }
            return NONE;
        }

        boolean holds(int nut) {
            return agoOf(nut) != NONE;
        }

        /** Uses a nut; tells whether it was there already. */
        boolean take(int nut) {
            int ago = agoOf(nut);
            boolean wasThere = ago != NONE;
            if (!wasThere) {
                if (nutCount < NUTS_KEPT) {
                    nutCount++;
                }
                ago = nutCount - 1;
            }
            for (int i = ago; i > 0; i--) {
                nuts[i] = nuts[i - 1];
            }
            nuts[0] = nut;
            return wasThere;
        }
    }

    /** The squirrels who wait; the one that is served next stands first. */
    private static final class Queue {
        int length;
        final int[] squirrels;
        final int[] urgencies;
        final int[] since;

        Queue() {
            squirrels = new int[SQUIRRELS];
            urgencies = new int[SQUIRRELS];
            since = new int[SQUIRRELS];
        }

        void copyFrom(Queue other) {
            length = other.length;
            System.arraycopy(other.squirrels, 0, squirrels, 0, SQUIRRELS);
            System.arraycopy(other.urgencies, 0, urgencies, 0, SQUIRRELS);
            System.arraycopy(other.since, 0, since, 0, SQUIRRELS);
        }

        int placeIn(int squirrel) {
            for (int place = 0; place < length; place++) {
                if (squirrels[place] == squirrel) {
                    return place;
                }
            }
            return NONE;
        }

        void enter(int squirrel, int urgency, int time) {
            if (length >= SQUIRRELS) {
                return;
            }
            int place = length;
            for (; place > 0 && urgencies[place - 1] < urgency; place--) {
                squirrels[place] = squirrels[place - 1];
                urgencies[place] = urgencies[place - 1];
                since[place] = since[place - 1];
            }
            squirrels[place] = squirrel;
            urgencies[place] = urgency;
            since[place] = time;
            length++;
        }

        void removeAt(int place) {
            for (int i = place + 1; i < length; i++) {
                squirrels[i - 1] = squirrels[i];
                urgencies[i - 1] = urgencies[i];
                since[i - 1] = since[i];
            }
            length--;
        }
    }

    private static final class Settings {
        int most;
        int leastIdle;
        int ageLimit;
        int restLimit;
        int leaseLimit;
        int patience;
        boolean lastFirst;

        Settings() {
            most = 8;
            leastIdle = 0;
            ageLimit = 200;
            restLimit = 60;
            leaseLimit = 40;
            patience = 20;
            lastFirst = true;
        }

        void copyFrom(Settings other) {
            most = other.most;
            leastIdle = other.leastIdle;
            ageLimit = other.ageLimit;
            restLimit = other.restLimit;
            leaseLimit = other.leaseLimit;
            patience = other.patience;
            lastFirst = other.lastFirst;
        }
    }

    private static final class Accounts {
        int opened;
        final int[] closed;
        int lendings;
        int impatient;
        int served;
        int waited;
        int hits;
        int misses;

        Accounts() {
            closed = new int[CAUSES];
        }

        void copyFrom(Accounts other) {
            opened = other.opened;
            System.arraycopy(other.closed, 0, closed, 0, CAUSES);
            lendings = other.lendings;
            impatient = other.impatient;
            served = other.served;
            waited = other.waited;
            hits = other.hits;
            misses = other.misses;
        }

        int closedInAll() {
            int many = 0;
            for (int cause = 0; cause < CAUSES; cause++) {
                many += closed[cause];
            }
            return many;
        }

        double shareOfHits() {
            int uses = hits + misses;
            return uses == 0 ? 0.0 : (double) hits / (double) uses;
        }
    }

    /** All that a snapshot holds, and what may happen to it. */
    private static final class State {
        int time;
        int living;
        int lastIdleRank;
        // The first ones, as many as are living, in the order in which they were opened.
        final Connection[] places;
        final Queue queue;
        final Settings settings;
        final Accounts accounts;

        State() {
            places = new Connection[PLACES];
            for (int place = 0; place < PLACES; place++) {
                places[place] = new Connection();
            }
            queue = new Queue();
            settings = new Settings();
            accounts = new Accounts();
        }

        void copyFrom(State other) {
            time = other.time;
            living = other.living;
            lastIdleRank = other.lastIdleRank;
            for (int place = 0; place < living; place++) {
                places[place].copyFrom(other.places[place]);
            }
            queue.copyFrom(other.queue);
            settings.copyFrom(other.settings);
            accounts.copyFrom(other.accounts);
        }

        int placeWith(int squirrel) {
            for (int place = 0; place < living; place++) {
                if (places[place].squirrel == squirrel) {
                    return place;
                }
            }
            return NONE;
        }

        boolean isBusy(int squirrel) {
            return placeWith(squirrel) != NONE || queue.placeIn(squirrel) != NONE;
        }

        int countIdle() {
            int many = 0;
            for (int place = 0; place < living; place++) {
                if (places[place].rests()) {
                    many++;
                }
            }
            return many;
        }

        /** The place of the idle connection that became idle last, or first; NONE if none is idle. */
        int placeOfIdle(boolean last) {
            int found = NONE;
            for (int place = 0; place < living; place++) {
                if (places[place].rests() && (found == NONE || last == becameIdleBehind(place, found))) {
                    found = place;
                }
            }
            return found;
        }

        boolean becameIdleBehind(int place, int other) {
            return places[place].idleRank > places[other].idleRank;
        }

        int placeOfNext() {
            return placeOfIdle(settings.lastFirst);
        }

        int turnInIdle(int place) {
            int ahead = 0;
            for (int other = 0; other < living; other++) {
                if (other != place && places[other].rests()
                        && settings.lastFirst == becameIdleBehind(other, place)) {
                    ahead++;
                }
            }
            return ahead;
        }

        int leaseRest(int place) {
            return Math.max(1, settings.leaseLimit - (time - places[place].since));
        }

        int waitAt(int queuePlace) {
            return time - queue.since[queuePlace];
        }

        // ---- opening and closing

        /** Opens a connection that is idle; the caller has seen that there is room for it. */
        int openOne() {
            int place = living;
            living++;
            accounts.opened++;
            Connection connection = places[place];
            connection.number = accounts.opened;
            connection.born = time;
            connection.broken = false;
            connection.timesLent = 0;
            connection.nutCount = 0;
            becomeIdle(connection);
            return place;
        }

        void becomeIdle(Connection connection) {
            lastIdleRank++;
            connection.squirrel = NONE;
            connection.since = time;
            connection.idleRank = lastIdleRank;
        }

        void closeAt(int place, int cause) {
            Connection gone = places[place];
            for (int i = place + 1; i < living; i++) {
                places[i - 1] = places[i];
            }
            living--;
            places[living] = gone;
            accounts.closed[cause]++;
        }

        boolean hasRoom() {
            return living < settings.most && living < PLACES;
        }

        void closeTooMany() {
            for (int i = 0; i < PLACES && living > settings.most; i++) {
                int place = placeOfIdle(false);
                if (place == NONE) {
                    return;
                }
                closeAt(place, TOO_MANY);
            }
        }

        // ---- lending and giving back

        /** The place of the connection to be lent, behind closing the broken ones ahead of it; NONE if none can be. */
        int findToLend() {
            for (int i = 0; i < PLACES; i++) {
                int place = placeOfIdle(settings.lastFirst);
                if (place == NONE) {
                    break;
                }
                if (!places[place].broken) {
                    return place;
                }
                closeAt(place, BROKEN);
            }
            return hasRoom() ? openOne() : NONE;
        }

        void lendTo(int place, int squirrel) {
            Connection connection = places[place];
            connection.squirrel = squirrel;
            connection.since = time;
            connection.timesLent++;
            accounts.lendings++;
        }

        boolean letAsk(int squirrel, int urgency) {
            // Who asks does not go ahead of those who wait, and nothing is noticed for it.
            int place = queue.length > 0 ? NONE : findToLend();
            if (place == NONE) {
                queue.enter(squirrel, urgency, time);
                return false;
            }
            lendTo(place, squirrel);
            return true;
        }

        /** Serves the queue; tells how many squirrels get a connection. */
        int serve() {
            int many = 0;
            for (int i = 0; i < SQUIRRELS && queue.length > 0; i++) {
                int place = findToLend();
                if (place == NONE) {
                    break;
                }
                lendTo(place, queue.squirrels[0]);
                accounts.served++;
                accounts.waited += waitAt(0);
                queue.removeAt(0);
                many++;
            }
            return many;
        }

        boolean takeBack(int place) {
            Connection connection = places[place];
            if (connection.broken) {
                closeAt(place, BROKEN);
            } else if (time - connection.born >= settings.ageLimit) {
                closeAt(place, TOO_OLD);
            } else {
                becomeIdle(connection);
            }
            return serve() > 0;
        }

        int letLeave(int queuePlace) {
            int ticks = waitAt(queuePlace);
            queue.removeAt(queuePlace);
            return ticks;
        }

        boolean letUse(int place, int nut) {
            boolean hit = places[place].take(nut);
            if (hit) {
                accounts.hits++;
            } else {
                accounts.misses++;
            }
            return hit;
        }

        // ---- ticks

        /** Lets ticks go by; tells how many squirrels who waited get a connection in them. */
        int passTicks(int ticks) {
            int many = 0;
            for (int i = 0; i < ticks; i++) {
                time++;
                losePatience();
                takeLeasesAway();
                closeOldOnes();
                closeRestedOnes();
                many += serve();
                openToLeastIdle();
            }
            return many;
        }

        void losePatience() {
            for (int place = queue.length - 1; place >= 0; place--) {
                if (waitAt(place) >= settings.patience) {
                    queue.removeAt(place);
                    accounts.impatient++;
                }
            }
        }

        void takeLeasesAway() {
            for (int place = living - 1; place >= 0; place--) {
                Connection connection = places[place];
                if (!connection.rests() && time - connection.since >= settings.leaseLimit) {
                    closeAt(place, TAKEN_AWAY);
                }
            }
        }

        void closeOldOnes() {
            for (int place = living - 1; place >= 0; place--) {
                Connection connection = places[place];
                if (connection.rests() && time - connection.born >= settings.ageLimit) {
                    closeAt(place, TOO_OLD);
                }
            }
        }

        void closeRestedOnes() {
            for (int surplus = countIdle() - settings.leastIdle; surplus > 0; surplus--) {
                int place = placeOfIdle(false);
                if (place == NONE || time - places[place].since < settings.restLimit) {
                    return;
                }
                closeAt(place, IDLE_TOO_LONG);
            }
        }

        void openToLeastIdle() {
            for (int lacking = settings.leastIdle - countIdle(); lacking > 0 && hasRoom(); lacking--) {
                openOne();
            }
        }

        // ---- courses

        /** Does what one part of a course tells; false, and nothing is done, if the call it stands for would throw. */
        boolean follow(int kind, int first, int second) {
            int place = placeWith(first);
            switch (kind) {
                case 'a':
                    if (isBusy(first)) {
                        return false;
                    }
                    letAsk(first, second);
                    return true;
                case 'g':
                    if (place == NONE) {
                        return false;
                    }
                    takeBack(place);
                    return true;
                case 'l':
                    int queuePlace = queue.placeIn(first);
                    if (queuePlace == NONE) {
                        return false;
                    }
                    letLeave(queuePlace);
                    return true;
                case 'u':
                    if (place == NONE) {
                        return false;
                    }
                    letUse(place, second);
                    return true;
                default:
                    passTicks(first);
                    return true;
            }
        }
    }

    /** The states saved for undo(), the oldest one first. */
    private static final class History {
        int length;
        final State[] states;

        History() {
            states = new State[STATES_SAVED];
            for (int i = 0; i < STATES_SAVED; i++) {
                states[i] = new State();
            }
        }

        void save(State state) {
            if (length >= STATES_SAVED) {
                dropOldest();
            }
            states[length].copyFrom(state);
            length++;
        }

        // The dropped object goes to the end, so that no new one has to be made.
        void dropOldest() {
            State oldest = states[0];
            for (int i = 1; i < STATES_SAVED; i++) {
                states[i - 1] = states[i];
            }
            states[STATES_SAVED - 1] = oldest;
            length = STATES_SAVED - 1;
        }

        void restore(State state) {
            if (length > 0) {
                length--;
                state.copyFrom(states[length]);
            }
        }
    }

    /** The buffer, and the parts of the course that it tells. */
    private static final class Course {
        static final int AT_KIND = 0;
        static final int AT_FIRST = 1;
        static final int AT_SECOND = 2;

        int length;
        final int[] codes;

        // Each part has more than one character, so that these rows are never full.
        int parts;
        final int[] kinds;
        final int[] firsts;
        final int[] seconds;

        int step;
        int kind;
        int first;
        int second;
        int digits;

        Course() {
            codes = new int[BUFFER_SIZE];
            kinds = new int[BUFFER_SIZE];
            firsts = new int[BUFFER_SIZE];
            seconds = new int[BUFFER_SIZE];
        }

        void add(int code) {
            if (length < BUFFER_SIZE) {
                codes[length] = code;
                length++;
            }
        }

        /** Reads up to the first syntax error; returns its index, or the length if there is none. */
        int read() {
            parts = 0;
            step = AT_KIND;
            for (int at = 0; at < length; at++) {
                if (!accepts(codes[at])) {
                    return at;
                }
            }
            return length;
        }

        /** Reads the parts; tells whether the buffer is a course, from its first character to its last one. */
        boolean isWhole() {
            if (read() < length || !partMayEnd()) {
                return false;
            }
            endPart();
            return true;
        }

        boolean accepts(int code) {
            if (step == AT_KIND) {
                return acceptsKind(code);
            }
            if (code >= '0' && code <= '9') {
                return acceptsDigit(code - '0');
            }
            if (code == ';' && partMayEnd()) {
                endPart();
                return true;
            }
            return acceptsMark(code);
        }

        boolean acceptsKind(int code) {
            if (code != 'a' && code != 'g' && code != 'l' && code != 'u' && code != 't') {
                return false;
            }
            kind = code;
            first = 0;
            second = 0;
            digits = 0;
            step = AT_FIRST;
            return true;
        }

        boolean acceptsDigit(int digit) {
            int before = step == AT_FIRST ? first : second;
            if (digits > 0 && before == 0) {
                return false;
            }
            int number = 10 * before + digit;
            if (number < leastNumber() || number > greatestNumber()) {
                return false;
            }
            if (step == AT_FIRST) {
                first = number;
            } else {
                second = number;
            }
            digits++;
            return true;
        }

        int leastNumber() {
            return kind == 't' ? 1 : 0;
        }

        int greatestNumber() {
            if (step == AT_FIRST) {
                return kind == 't' ? GREATEST_TICKS : SQUIRRELS - 1;
            }
            return kind == 'a' ? GREATEST_URGENCY : GREATEST_NUT;
        }

        boolean acceptsMark(int code) {
            if (step != AT_FIRST || digits == 0 || !hasSecond() || code != (kind == 'a' ? '!' : ':')) {
                return false;
            }
            digits = 0;
            step = AT_SECOND;
            return true;
        }

        boolean hasSecond() {
            return kind == 'a' || kind == 'u';
        }

        boolean partMayEnd() {
            return step != AT_KIND && digits > 0 && hasSecond() == (step == AT_SECOND);
        }

        void endPart() {
            if (parts < BUFFER_SIZE) {
                kinds[parts] = kind;
                firsts[parts] = first;
                seconds[parts] = second;
                parts++;
            }
            step = AT_KIND;
        }
    }

    private static final class Hash {
        long sum;

        Hash() {
            sum = HASH_START;
        }

        void add(long value) {
            sum = 31L * sum + value;
        }
    }
}
