/** Boundary cases of what a transaction sees: of the Terms and of promises 7 and 8. */
final class SeeingBoundaries {
    private static final int MOST_CALLS = 512;

    private SeeingBoundaries() {
    }

    @Says("its snapshot is which transactions had committed when it began")
    @Break(from = "snapshots[transaction] = committed;", to = "snapshots[transaction] = committed | active;")
    @Break(from = "other == reader || has(snapshots[reader], other)", to = "other == reader || has(committed, other)")
    @Break(from = "snapshots[transaction] = committed;",
            to = "snapshots[transaction] = count == 0 ? 0 : committed & ~(1L << (count - 1));")
    static void snapshotOfTheBegin() {
        RowPages store = new RowPages();
        int writer = store.begin();
        store.write(writer, 0, 1);
        int early = store.begin();
        store.end(writer, true);
        Steps.reads("active when it began, committed now", store, early, 0, -1);
        int late = store.begin();
        Steps.reads("committed just ahead of the begin", store, late, 0, 1);
        Steps.put(store, 1, 2);
        int last = store.begin();
        Steps.reads("the latest one, too", store, last, 1, 2);
        Steps.reads("but not by an earlier one", store, late, 1, -1);
    }

    @Says("It sees a version, if its birth is frozen")
    @Break(from = "slots.frozen[place] || transactions.knows(transaction, slots.births[place])",
            to = "!slots.frozen[place] && transactions.knows(transaction, slots.births[place])")
    static void frozenHoweverFarStampsGo() {
        RowPages store = new RowPages();
        store.setFreezing(1);
        Steps.put(store, 0, 1);
        store.clean(0);
        Check.same("it is frozen", store.slot(0, 0), 10);
        for (int time = 0; time < 5; time++) {
            store.jump(20);
            int reader = store.begin();
            Steps.reads("a frozen one", store, reader, 0, 1);
            store.end(reader, true);
        }
    }

    @Says("or its own")
    @Break(from = "other == reader || has(snapshots[reader], other)", to = "has(snapshots[reader], other)")
    static void ownBirth() {
        RowPages store = new RowPages();
        int own = store.begin();
        store.write(own, 0, 1);
        Steps.reads("an own one, at once", store, own, 0, 1);
    }

    @Says("or of a transaction that had committed by its snapshot")
    @Break(from = "other == reader || has(snapshots[reader], other)", to = "other == reader")
    static void birthOfOneThatHadCommitted() {
        RowPages store = new RowPages();
        Steps.put(store, 0, 1);
        int reader = store.begin();
        Steps.reads("of transaction 0", store, reader, 0, 1);
    }

    @Says("and it has no death")
    @Break(from = "isBorn && !transactions.knows(transaction, slots.deaths[place])",
            to = "isBorn && slots.hasDeath(place) && !transactions.knows(transaction, slots.deaths[place])")
    @Break(from = "isBorn && !transactions.knows(transaction, slots.deaths[place])", to = "isBorn")
    static void withDeathAndWithout() {
        RowPages store = new RowPages();
        Steps.put(store, 0, 1);
        Steps.put(store, 1, 1);
        Steps.remove(store, 1);
        int reader = store.begin();
        Steps.reads("without a death", store, reader, 0, 1);
        Steps.reads("with a death that it knows of", store, reader, 1, -1);
    }

    @Says("or one of a transaction that is neither its own nor had committed by its snapshot")
    @Break(from = "isBorn && !transactions.knows(transaction, slots.deaths[place])",
            to = "isBorn && !slots.hasDeath(place)")
    @Break(from = "isBorn && !transactions.knows(transaction, slots.deaths[place])",
            to = "isBorn && slots.deaths[place] != transaction")
    @Break(from = "isBorn && !transactions.knows(transaction, slots.deaths[place])",
            to = "isBorn && !Transactions.has(transactions.snapshots[transaction], slots.deaths[place])")
    @Break(from = "&& !transactions.knows(transaction, table.deaths[row])",
            to = "&& !Transactions.has(transactions.snapshots[transaction], table.deaths[row])")
    @Break(from = "&& !transactions.knows(transaction, table.deaths[row])", to = "&& table.deaths[row] == NONE")
    static void deathsOfFourKinds() {
        RowPages store = new RowPages();
        Steps.put(store, 0, 1);
        int early = store.begin();
        int remover = store.begin();
        store.delete(remover, 0);
        Steps.reads("a death of an active one", store, early, 0, 1);
        Steps.reads("an own death", store, remover, 0, -1);
        store.end(remover, true);
        Steps.reads("a death of one that committed since", store, early, 0, 1);
        int late = store.begin();
        Steps.reads("a death of one that had committed", store, late, 0, -1);
    }

    @Says("For each key it sees one version at the most: one goes through the entries of the index")
    @Break(from = "int entry = index.counts[key] - 1; entry >= 0; entry--",
            to = "int entry = index.counts[key] - 1; entry >= index.counts[key] - 1; entry--")
    @Break(from = "int entry = index.counts[key] - 1; entry >= 0; entry--",
            to = "int entry = index.counts[key] - 1; entry > 0; entry--")
    @Break(from = "int entry = index.counts[key] - 1; entry >= 0; entry--",
            to = "int entry = index.counts[key] - 2; entry >= 0; entry--")
    static void firstAndLastEntry() {
        RowPages store = new RowPages();
        Steps.put(store, 0, 1);
        int early = store.begin();
        Steps.remove(store, 0);
        Steps.put(store, 0, 2);
        int middle = store.begin();
        Steps.remove(store, 0);
        Steps.put(store, 0, 3);
        int late = store.begin();
        Check.same("entries", store.entries(0), 3);
        Steps.reads("by the first entry", store, early, 0, 1);
        Steps.reads("by the middle entry", store, middle, 0, 2);
        Steps.reads("by the last entry", store, late, 0, 3);
    }

    @Says("from each along the chain")
    @Break(from = "step < SLOTS && isPlace(place)", to = "step < 1 && isPlace(place)")
    @Break(from = "step < SLOTS && isPlace(place)", to = "step < SLOTS - 1 && isPlace(place)")
    static void firstAndLastOfALongChain() {
        RowPages store = new RowPages();
        int[] readers = new int[8];
        for (int slot = 0; slot < 8; slot++) {
            Check.same("one page", Steps.put(store, 0, slot) % 100000, slot);
            readers[slot] = store.begin();
        }
        Check.same("one chain", store.entries(0), 1);
        for (int slot = 0; slot < 8; slot++) {
            Steps.reads("each of a whole page", store, readers[slot], 0, slot);
        }
    }

    @Says("its versions are dead, as nobody ever sees them")
    @Break(from = "if (commits) { committed |=", to = "if (commits || transaction >= 0) { committed |=")
    static void nobodySeesDeadVersions() {
        RowPages store = new RowPages();
        int early = store.begin();
        Steps.putAndTakeBack(store, 0, 1);
        int late = store.begin();
        Steps.reads("by one that was there", store, early, 0, -1);
        Steps.reads("by a later one", store, late, 0, -1);
    }

    @Says(in = "Promise 7", value = "Returns the value of the version that the transaction sees, -1 if it sees none.")
    @Break(from = "return isPlace(place) ? slots.values[place] : NONE;",
            to = "return isPlace(place) && slots.values[place] > 0 ? slots.values[place] : NONE;")
    @Break(from = "return isPlace(place) ? slots.values[place] : NONE;",
            to = "return isPlace(place) ? slots.values[place] : 0;")
    @Break(from = "return isPlace(place) ? slots.values[place] : NONE;",
            to = "return place > 0 && isPlace(place) ? slots.values[place] : NONE;")
    static void readOfNoneAndOf0() {
        RowPages store = new RowPages();
        int own = store.begin();
        Check.same("none", store.read(own, 0), -1);
        store.write(own, 0, 0);
        Check.same("the value 0", store.read(own, 0), 0);
        store.write(own, 0, 9999);
        Check.same("the value 9999", store.read(own, 0), 9999);
        store.delete(own, 0);
        Check.same("none again", store.read(own, 0), -1);
    }

    @Says(in = "Promise 7", value = "- `key`: 0 to 5")
    @Break(from = "if (key < 0 || key >= KEYS)", to = "if (key <= 0 || key >= KEYS)")
    @Break(from = "if (key < 0 || key >= KEYS)", to = "if (key < 0 || key >= KEYS - 1)")
    static void readOfTheFirstAndTheLastKey() {
        RowPages store = new RowPages();
        int own = store.begin();
        store.write(own, 0, 10);
        store.write(own, 5, 15);
        Check.same("key 0", store.read(own, 0), 10);
        Check.same("key 5", store.read(own, 5), 15);
    }

    @Says(in = "Promise 7", value = "Throws `IndexOutOfBoundsException` if there never was such a transaction")
    @Break(from = "checkTransaction(transaction); checkKey(key); checkActive(transaction); int place = seenPlace(transaction, key);"
            + " return isPlace(place)",
            to = "checkKey(key); checkActive(transaction); int place = seenPlace(transaction, key); return isPlace(place)")
    @Break(from = "return transaction >= 0 && transaction < count;", to = "return transaction >= 0 && transaction <= count;")
    static void readByNone() {
        RowPages store = new RowPages();
        Check.noTransactions("read", 0, number -> store.read(number, 0));
        store.begin();
        Check.noTransactions("read", 1, number -> store.read(number, 0));
    }

    @Says(in = "Promise 7", value = "Throws `IllegalArgumentException` if key is out of range")
    @Break(from = "checkTransaction(transaction); checkKey(key); checkActive(transaction); int place = seenPlace(transaction, key);"
            + " return isPlace(place)",
            to = "checkTransaction(transaction); checkActive(transaction); int place = seenPlace(transaction, key);"
                    + " return isPlace(place)")
    @Break(from = "if (key < 0 || key >= KEYS)", to = "if (key < 0 || key > KEYS)")
    @Break(from = "if (key < 0 || key >= KEYS)", to = "if (key < -1 || key >= KEYS)")
    static void readOfABadKey() {
        RowPages store = new RowPages();
        store.begin();
        Check.badArguments("read", 0, 5, key -> store.read(0, key));
    }

    @Says(in = "Promise 7", value = "Throws `IllegalStateException` if it is not active")
    @Break(from = "checkActive(transaction); int place = seenPlace(transaction, key); return isPlace(place)",
            to = "int place = seenPlace(transaction, key); return isPlace(place)")
    static void readByOneThatEnded() {
        RowPages store = new RowPages();
        store.begin();
        store.begin();
        store.end(0, true);
        store.end(1, false);
        Check.badState("read by one that committed", () -> store.read(0, 0));
        Check.badState("read by one that was taken back", () -> store.read(1, 0));
    }

    @Says(in = "Promise 8", value = "by a table of all versions that there ever were")
    @Break(from = "table.putDeath(slots.rows[place], transaction);", to = "")
    @Break(from = "deaths[row] = NONE; count++;", to = "deaths[row] = birth; count++;")
    static void plainBehindCleaning() {
        RowPages store = new RowPages();
        Steps.put(store, 0, 1);
        Steps.put(store, 0, 2);
        Check.same("the first one went", store.clean(0), 1);
        int reader = store.begin();
        Check.same("the second one", store.readPlain(reader, 0), 2);
        Steps.remove(store, 0);
        Check.same("with a later death", store.readPlain(reader, 0), 2);
        store.end(reader, true);
        Check.same("the second one went", store.clean(0), 1);
        Check.same("none", store.readPlain(store.begin(), 0), -1);
    }

    @Says(in = "Promise 8", value = "with the numbers of transactions")
    @Break(from = "transactions.knows(transaction, table.births[row])",
            to = "(transactions.knows(transaction, table.births[row])"
                    + " || transactions.stamps[transaction] == transactions.stamps[table.births[row]])")
    static void plainWithStampsAlike() {
        RowPages store = new RowPages();
        Steps.putAndTakeBack(store, 0, 1);
        store.clean(0);
        Steps.jump(store, 20, 20, 20, 3);
        int reader = store.begin();
        Check.same("the stamp of the one taken back", store.stamp(reader), store.stamp(0));
        Check.same("it is another transaction", store.readPlain(reader, 0), -1);
    }

    @Says(in = "Promise 8", value = "Returns the value; -1 if there is none.")
    @Break(from = "return table.values[row]; } } return NONE;", to = "return table.values[row]; } } return 0;")
    @Break(from = "row < table.count; row++) { if (table.keys[row]", to = "row < table.count - 1; row++) { if (table.keys[row]")
    @Break(from = "int row = 0; row < table.count; row++) { if (table.keys[row]",
            to = "int row = 1; row < table.count; row++) { if (table.keys[row]")
    static void plainOfNoneAndOf0() {
        RowPages store = new RowPages();
        int own = store.begin();
        Check.same("an empty table", store.readPlain(own, 0), -1);
        store.write(own, 0, 0);
        Check.same("the value 0", store.readPlain(own, 0), 0);
        Check.same("another key", store.readPlain(own, 5), -1);
        store.write(own, 5, 9999);
        Check.same("the first of the table", store.readPlain(own, 0), 0);
        Check.same("the last of the table", store.readPlain(own, 5), 9999);
    }

    @Says(in = "What it is", value = "An object is used for at most 512 calls after it has been made")
    @Break(from = "ROWS = 512;", to = "ROWS = 430;")
    static void plainWithTheMostVersions() {
        RowPages store = new RowPages();
        int calls = 0;
        for (int time = 0; time < 13; time++) {
            int writer = store.begin();
            Steps.write(store, writer, time % 6, 32);
            store.end(writer, false);
            for (int page = 0; page < 4; page++) {
                store.clean(page);
            }
            calls += 38;
        }
        int own = store.begin();
        Steps.write(store, own, 3, 15);
        calls += 16;
        Check.same("the 511th call", store.read(own, 3), 14);
        Check.same("the last call", store.readPlain(own, 3), 14);
        Check.same("calls", calls + 2, MOST_CALLS);
    }

    @Says(in = "Promise 8", value = "- `key`: 0 to 5")
    @Break(from = "if (key < 0 || key >= KEYS)", to = "if (key <= 0 || key >= KEYS)")
    @Break(from = "if (key < 0 || key >= KEYS)", to = "if (key < 0 || key >= KEYS - 1)")
    static void plainOfTheFirstAndTheLastKey() {
        RowPages store = new RowPages();
        int own = store.begin();
        store.write(own, 0, 10);
        store.write(own, 5, 15);
        Check.same("key 0", store.readPlain(own, 0), 10);
        Check.same("key 5", store.readPlain(own, 5), 15);
    }

    @Says(in = "Promise 8", value = "Throws `IndexOutOfBoundsException` if there never was such a transaction")
    @Break(from = "checkTransaction(transaction); checkKey(key); checkActive(transaction); for (int row",
            to = "checkKey(key); checkActive(transaction); for (int row")
    @Break(from = "return transaction >= 0 && transaction < count;", to = "return transaction >= 0 && transaction <= count;")
    static void plainByNone() {
        RowPages store = new RowPages();
        Check.noTransactions("readPlain", 0, number -> store.readPlain(number, 0));
        store.begin();
        Check.noTransactions("readPlain", 1, number -> store.readPlain(number, 0));
    }

    @Says(in = "Promise 8", value = "Throws `IllegalArgumentException` if key is out of range")
    @Break(from = "checkTransaction(transaction); checkKey(key); checkActive(transaction); for (int row",
            to = "checkTransaction(transaction); checkActive(transaction); for (int row")
    @Break(from = "if (key < 0 || key >= KEYS)", to = "if (key < 0 || key > KEYS)")
    @Break(from = "if (key < 0 || key >= KEYS)", to = "if (key < -1 || key >= KEYS)")
    static void plainOfABadKey() {
        RowPages store = new RowPages();
        store.begin();
        Check.badArguments("readPlain", 0, 5, key -> store.readPlain(0, key));
    }

    @Says(in = "Promise 8", value = "Throws `IllegalStateException` if it is not active")
    @Break(from = "checkActive(transaction); for (int row", to = "for (int row")
    static void plainByOneThatEnded() {
        RowPages store = new RowPages();
        store.begin();
        store.begin();
        store.end(0, true);
        store.end(1, false);
        Check.badState("readPlain by one that committed", () -> store.readPlain(0, 0));
        Check.badState("readPlain by one that was taken back", () -> store.readPlain(1, 0));
    }
}
