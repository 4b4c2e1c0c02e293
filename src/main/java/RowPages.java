/**
 * A row store: versions of rows lie in pages, with stamps of birth and death that go round a
 * circle. A place is a slot of a page, numbered through all pages: 8 times the page plus the slot.
 */
public final class RowPages {
    private static final int NONE = -1;
    private static final int PAGES = 4;
    private static final int SLOTS = 8;
    private static final int PLACES = PAGES * SLOTS;
    private static final int KEYS = 6;
    private static final int VALUES = 10000;
    private static final int TRANSACTIONS = 60;
    private static final int STAMPS = 64;
    private static final int HALF_CIRCLE = STAMPS / 2;
    private static final int LONGEST_JUMP = 20;
    private static final int AGE_THAT_STOPS_BEGIN = 28;
    private static final int FIRST_FREEZING_AGE = 20;
    private static final int GREATEST_FREEZING_AGE = 27;
    // An object is used for 512 calls, and each makes one version at the most.
    private static final int ROWS = 512;

    private final Transactions transactions;
    private final Slots slots;
    private final Index index;
    private final Table table;
    private final boolean[] mapped;
    private int freezingAge;

    public RowPages() {
        transactions = new Transactions();
        slots = new Slots();
        index = new Index();
        table = new Table();
        mapped = new boolean[PAGES];
        freezingAge = FIRST_FREEZING_AGE;
    }

    // ---- transactions

    public int begin() throws IllegalStateException {
        if (transactions.areAllUsed()) {
            throw new IllegalStateException("there were 60 transactions");
        }
        if (oldest() >= AGE_THAT_STOPS_BEGIN) {
            throw new IllegalStateException("the oldest age is 28 or more");
        }
        return transactions.start();
    }

    public int end(int transaction, boolean commits)
            throws IndexOutOfBoundsException, IllegalStateException {
        checkTransaction(transaction);
        checkActive(transaction);
        transactions.finish(transaction, commits);
        if (!commits) {
            slots.takeOffDeaths(transaction);
            table.takeOffDeaths(transaction);
        }
        return transactions.activeCount();
    }

    public int jump(int stamps) throws IllegalArgumentException, IllegalStateException {
        if (stamps < 1 || stamps > LONGEST_JUMP) {
            throw new IllegalArgumentException("stamps is not 1 to 20");
        }
        int age = oldest();
        if (age > 0 && age + stamps >= HALF_CIRCLE) {
            throw new IllegalStateException("the oldest age would be 32 or more");
        }
        return transactions.skip(stamps);
    }

    public int stamp(int transaction) throws IndexOutOfBoundsException {
        checkTransaction(transaction);
        return transactions.stamps[transaction];
    }

    public boolean isBefore(int one, int other) throws IllegalArgumentException {
        checkStamp(one);
        checkStamp(other);
        return one != other && distance(one, other) < HALF_CIRCLE;
    }

    // ---- reading and writing

    public int read(int transaction, int key)
            throws IndexOutOfBoundsException, IllegalArgumentException, IllegalStateException {
        checkTransaction(transaction);
        checkKey(key);
        checkActive(transaction);
        int place = seenPlace(transaction, key);
        return isPlace(place) ? slots.values[place] : NONE;
    }

    public int readPlain(int transaction, int key)
            throws IndexOutOfBoundsException, IllegalArgumentException, IllegalStateException {
        checkTransaction(transaction);
        checkKey(key);
        checkActive(transaction);
        for (int row = 0; row < table.count; row++) {
            if (table.keys[row] == key
                    && transactions.knows(transaction, table.births[row])
                    && !transactions.knows(transaction, table.deaths[row])) {
                return table.values[row];
            }
        }
        return NONE;
    }

    public int write(int transaction, int key, int value)
            throws IndexOutOfBoundsException, IllegalArgumentException, IllegalStateException {
        checkTransaction(transaction);
        checkKey(key);
        checkValue(value);
        checkActive(transaction);
        checkNotRefused(transaction, key);
        int old = seenPlace(transaction, key);
        int place = placeForNew(old);
        if (!isPlace(place)) {
            throw new IllegalStateException("no slot is free");
        }
        if (isPlace(old)) {
            putDeath(transaction, old);
        }
        putVersion(transaction, key, value, place);
        boolean isNext = isPlace(old) && pageOf(old) == pageOf(place);
        if (isNext) {
            slots.nexts[old] = place;
        } else {
            index.add(key, place);
        }
        return 1000 * pageOf(place) + slotOf(place) + (isNext ? 100000 : 0);
    }

    public boolean delete(int transaction, int key)
            throws IndexOutOfBoundsException, IllegalArgumentException, IllegalStateException {
        checkTransaction(transaction);
        checkKey(key);
        checkActive(transaction);
        int place = seenPlace(transaction, key);
        if (!isPlace(place)) {
            return false;
        }
        checkNotRefused(transaction, key);
        putDeath(transaction, place);
        return true;
    }

    // ---- pages

    public int clean(int page) throws IllegalArgumentException {
        checkPage(page);
        long settled = transactions.settled();
        int gone = 0;
        for (int place = firstOf(page); place < firstOf(page) + SLOTS; place++) {
            if (canGo(place, settled)) {
                takeOut(place);
                gone++;
            }
        }
        freezeOldOnes(page, settled);
        mapped[page] = isWhole(page);
        return gone;
    }

    public int setFreezing(int age) throws IllegalArgumentException {
        if (age < 1 || age > GREATEST_FREEZING_AGE) {
            throw new IllegalArgumentException("age is not 1 to 27");
        }
        int before = freezingAge;
        freezingAge = age;
        return before;
    }

    public boolean isMapped(int page) throws IllegalArgumentException {
        checkPage(page);
        return mapped[page];
    }

    public boolean isWhole(int page) throws IllegalArgumentException {
        checkPage(page);
        long settled = transactions.settled();
        for (int place = firstOf(page); place < firstOf(page) + SLOTS; place++) {
            if (slots.isUsed(place) && !isSeenByAll(place, settled)) {
                return false;
            }
        }
        return true;
    }

    public int slot(int page, int slot) throws IllegalArgumentException {
        checkPage(page);
        checkSlot(slot);
        int place = firstOf(page) + slot;
        if (!slots.isUsed(place)) {
            return NONE;
        }
        int answer = slots.keys[place];
        if (slots.frozen[place]) {
            answer += 10;
        }
        if (slots.hasDeath(place)) {
            answer += 20;
        }
        if (isPlace(slots.nexts[place])) {
            answer += 100 * (1 + slotOf(slots.nexts[place]));
        }
        return answer;
    }

    public int entries(int key) throws IllegalArgumentException {
        checkKey(key);
        return index.counts[key];
    }

    public float fullness(int page) throws IllegalArgumentException {
        checkPage(page);
        int used = 0;
        for (int place = firstOf(page); place < firstOf(page) + SLOTS; place++) {
            if (slots.isUsed(place)) {
                used++;
            }
        }
        return (float) used / SLOTS;
    }

    public int oldest() {
        int greatest = transactions.oldestActiveAge();
        for (int place = 0; place < PLACES; place++) {
            if (slots.isUsed(place) && !slots.frozen[place]) {
                greatest = Math.max(greatest, transactions.ageOf(slots.birthStamps[place]));
            }
            if (slots.hasDeath(place)) {
                greatest = Math.max(greatest, transactions.ageOf(slots.deathStamps[place]));
            }
        }
        return greatest;
    }

    // ---- what the calls check

    private void checkTransaction(int transaction) throws IndexOutOfBoundsException {
        if (!transactions.wasBegun(transaction)) {
            throw new IndexOutOfBoundsException("there never was such a transaction");
        }
    }

    private void checkActive(int transaction) throws IllegalStateException {
        if (!transactions.isActive(transaction)) {
            throw new IllegalStateException("the transaction is not active");
        }
    }

    private void checkNotRefused(int transaction, int key) throws IllegalStateException {
        for (int place = 0; place < PLACES; place++) {
            if (slots.keys[place] == key
                    && (transactions.isRival(transaction, slots.births[place])
                            || transactions.isRival(transaction, slots.deaths[place]))) {
                throw new IllegalStateException("writing is refused");
            }
        }
    }

    private static void checkStamp(int stamp) throws IllegalArgumentException {
        if (stamp < 0 || stamp >= STAMPS) {
            throw new IllegalArgumentException("a stamp is not 0 to 63");
        }
    }

    private static void checkKey(int key) throws IllegalArgumentException {
        if (key < 0 || key >= KEYS) {
            throw new IllegalArgumentException("key is not 0 to 5");
        }
    }

    private static void checkValue(int value) throws IllegalArgumentException {
        if (value < 0 || value >= VALUES) {
            throw new IllegalArgumentException("value is not 0 to 9999");
        }
    }

    private static void checkPage(int page) throws IllegalArgumentException {
        if (page < 0 || page >= PAGES) {
            throw new IllegalArgumentException("page is not 0 to 3");
        }
    }

    private static void checkSlot(int slot) throws IllegalArgumentException {
        if (slot < 0 || slot >= SLOTS) {
            throw new IllegalArgumentException("slot is not 0 to 7");
        }
    }

    // ---- places and stamps

    private static boolean isPlace(int place) {
        return place >= 0 && place < PLACES;
    }

    private static int firstOf(int page) {
        return page * SLOTS;
    }

    private static int pageOf(int place) {
        return place / SLOTS;
    }

    private static int slotOf(int place) {
        return place % SLOTS;
    }

    private static int distance(int from, int to) {
        return Math.floorMod(to - from, STAMPS);
    }

    // ---- seeing

    /** The place of the version of the key that the transaction sees, NONE if it sees none. */
    private int seenPlace(int transaction, int key) {
        for (int entry = index.counts[key] - 1; entry >= 0; entry--) {
            int place = seenInChain(transaction, index.places[key][entry]);
            if (place != NONE) {
                return place;
            }
        }
        return NONE;
    }

    private int seenInChain(int transaction, int first) {
        int place = first;
        for (int step = 0; step < SLOTS && isPlace(place); step++) {
            if (sees(transaction, place)) {
                return place;
            }
            place = slots.nexts[place];
        }
        return NONE;
    }

    private boolean sees(int transaction, int place) {
        boolean isBorn = slots.frozen[place] || transactions.knows(transaction, slots.births[place]);
        return isBorn && !transactions.knows(transaction, slots.deaths[place]);
    }

    // ---- changing

    private int placeForNew(int old) {
        if (isPlace(old)) {
            int near = slots.lowestFree(firstOf(pageOf(old)), SLOTS);
            if (near != NONE) {
                return near;
            }
        }
        return slots.lowestFree(0, PLACES);
    }

    private void putDeath(int transaction, int place) {
        slots.deaths[place] = transaction;
        slots.deathStamps[place] = transactions.stamps[transaction];
        table.putDeath(slots.rows[place], transaction);
        mapped[pageOf(place)] = false;
    }

    private void putVersion(int transaction, int key, int value, int place) {
        slots.keys[place] = key;
        slots.values[place] = value;
        slots.births[place] = transaction;
        slots.birthStamps[place] = transactions.stamps[transaction];
        slots.rows[place] = table.add(key, value, transaction);
        mapped[pageOf(place)] = false;
    }

    // ---- cleaning

    private boolean canGo(int place, long settled) {
        return slots.isUsed(place)
                && (transactions.isTakenBack(slots.births[place])
                        || Transactions.has(settled, slots.deaths[place]));
    }

    private boolean isSeenByAll(int place, long settled) {
        return !slots.hasDeath(place)
                && (slots.frozen[place] || Transactions.has(settled, slots.births[place]));
    }

    private void takeOut(int place) {
        int next = slots.nexts[place];
        slots.bypass(place, next);
        index.move(slots.keys[place], place, next);
        slots.empty(place);
    }

    private void freezeOldOnes(int page, long settled) {
        for (int place = firstOf(page); place < firstOf(page) + SLOTS; place++) {
            if (slots.isUsed(place)
                    && transactions.ageOf(slots.birthStamps[place]) >= freezingAge
                    && Transactions.has(settled, slots.births[place])) {
                slots.frozen[place] = true;
            }
        }
    }

    /** All transactions. A set of them is a long: bit t stands for transaction t. */
    private static final class Transactions {
        final int[] stamps = new int[TRANSACTIONS];
        private final long[] snapshots = new long[TRANSACTIONS];
        private int count;
        private int nextStamp;
        private long active;
        private long committed;

        static boolean has(long set, int transaction) {
            return transaction >= 0 && transaction < TRANSACTIONS && ((set >>> transaction) & 1L) != 0;
        }

        boolean areAllUsed() {
            return count >= TRANSACTIONS;
        }

        boolean wasBegun(int transaction) {
            return transaction >= 0 && transaction < count;
        }

        boolean isActive(int transaction) {
            return has(active, transaction);
        }

        boolean isTakenBack(int transaction) {
            return wasBegun(transaction) && !has(active | committed, transaction);
        }

        int start() {
            int transaction = count;
            stamps[transaction] = nextStamp;
            snapshots[transaction] = committed;
            active |= 1L << transaction;
            count++;
            skip(1);
            return transaction;
        }

        void finish(int transaction, boolean commits) {
            active &= ~(1L << transaction);
            if (commits) {
                committed |= 1L << transaction;
            }
        }

        int skip(int stampCount) {
            nextStamp = (nextStamp + stampCount) % STAMPS;
            return nextStamp;
        }

        int activeCount() {
            return Long.bitCount(active);
        }

        int ageOf(int stamp) {
            return distance(stamp, nextStamp);
        }

        int oldestActiveAge() {
            int greatest = 0;
            for (int transaction = 0; transaction < count; transaction++) {
                if (isActive(transaction)) {
                    greatest = Math.max(greatest, ageOf(stamps[transaction]));
                }
            }
            return greatest;
        }

        /** Whether the reader is the other one, or the other one had committed by its snapshot. */
        boolean knows(int reader, int other) {
            return other == reader || has(snapshots[reader], other);
        }

        /** Whether what the other one did to a key keeps the writer from writing it. */
        boolean isRival(int writer, int other) {
            return has(active | committed, other) && !knows(writer, other);
        }

        /** Those that have committed, and had, by the snapshot of each active one. */
        long settled() {
            long set = committed;
            for (int transaction = 0; transaction < count; transaction++) {
                if (isActive(transaction)) {
                    set &= snapshots[transaction];
                }
            }
            return set;
        }
    }

    /** What lies in each place; a free one has no key. */
    private static final class Slots {
        final int[] keys = new int[PLACES];
        final int[] values = new int[PLACES];
        final int[] births = new int[PLACES];
        final int[] birthStamps = new int[PLACES];
        final boolean[] frozen = new boolean[PLACES];
        final int[] deaths = new int[PLACES];
        final int[] deathStamps = new int[PLACES];
        final int[] nexts = new int[PLACES];
        final int[] rows = new int[PLACES];

        Slots() {
            for (int place = 0; place < PLACES; place++) {
                empty(place);
            }
        }

        void empty(int place) {
            keys[place] = NONE;
            births[place] = NONE;
            frozen[place] = false;
            deaths[place] = NONE;
            nexts[place] = NONE;
            rows[place] = NONE;
        }

        boolean isUsed(int place) {
            return keys[place] != NONE;
        }

        boolean hasDeath(int place) {
            return deaths[place] != NONE;
        }

        int lowestFree(int first, int length) {
            for (int place = first; place < first + length; place++) {
                if (!isUsed(place)) {
                    return place;
                }
            }
            return NONE;
        }

        void takeOffDeaths(int transaction) {
            for (int place = 0; place < PLACES; place++) {
                if (deaths[place] == transaction) {
                    deaths[place] = NONE;
                }
            }
        }

        void bypass(int place, int next) {
            for (int other = 0; other < PLACES; other++) {
                if (nexts[other] == place) {
                    nexts[other] = next;
                }
            }
        }
    }

    /** For each key the places that its entries point to, the latest one last. */
    private static final class Index {
        final int[][] places = new int[KEYS][PLACES];
        final int[] counts = new int[KEYS];

        void add(int key, int place) {
            // Entries point to unlike places, so there is room for as many as there are places.
            if (counts[key] < PLACES) {
                places[key][counts[key]] = place;
                counts[key]++;
            }
        }

        /** Lets the entry that points to a place point to another one, or go, if that is NONE. */
        void move(int key, int from, int to) {
            int kept = 0;
            for (int entry = 0; entry < counts[key]; entry++) {
                int place = places[key][entry] == from ? to : places[key][entry];
                if (place != NONE) {
                    places[key][kept] = place;
                    kept++;
                }
            }
            counts[key] = kept;
        }
    }

    /** All versions that there ever were, with the plain numbers of transactions. */
    private static final class Table {
        final int[] keys = new int[ROWS];
        final int[] values = new int[ROWS];
        final int[] births = new int[ROWS];
        final int[] deaths = new int[ROWS];
        int count;

        int add(int key, int value, int birth) {
            if (count >= ROWS) {
                return NONE;
            }
            int row = count;
            keys[row] = key;
            values[row] = value;
            births[row] = birth;
            deaths[row] = NONE;
            count++;
            return row;
        }

        void putDeath(int row, int death) {
            if (row >= 0 && row < count) {
                deaths[row] = death;
            }
        }

        void takeOffDeaths(int transaction) {
            for (int row = 0; row < count; row++) {
                if (deaths[row] == transaction) {
                    deaths[row] = NONE;
                }
            }
        }
    }
}
