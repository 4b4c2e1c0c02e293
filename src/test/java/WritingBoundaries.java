/** Boundary cases of writing and of taking back: of the Terms and of promises 9 and 10. */
final class WritingBoundaries {
    private WritingBoundaries() {
    }

    /** Key 0 with a version in slot 0, and one in slot 2 of key 2; slot 1 is free, as all behind 2. */
    private static RowPages withAHole() {
        RowPages store = new RowPages();
        Steps.put(store, 0, 1);
        int back = store.begin();
        store.write(back, 1, 1);
        Steps.put(store, 2, 1);
        store.end(back, false);
        store.clean(0);
        return store;
    }

    /** Key 0 with its only version in slot 7 of page 1, all else free. */
    private static RowPages withTheLastSlotOfPage1() {
        RowPages store = new RowPages();
        int writer = store.begin();
        Steps.write(store, writer, 0, 16);
        store.end(writer, true);
        store.clean(0);
        store.clean(1);
        return store;
    }

    @Says("There are four pages, 0 to 3, with eight slots each, 0 to 7.")
    @Break(from = "PAGES = 4;", to = "PAGES = 3;")
    @Break(from = "PAGES = 4;", to = "PAGES = 5;")
    @Break(from = "SLOTS = 8;", to = "SLOTS = 7;")
    @Break(from = "SLOTS = 8;", to = "SLOTS = 9;")
    static void thirtyTwoVersions() {
        RowPages store = new RowPages();
        int own = store.begin();
        for (int page = 0; page < 4; page++) {
            Check.same("the first one of a page", store.write(own, 0, 1), 1000 * page);
            for (int slot = 1; slot < 8; slot++) {
                Check.same("the next one", store.write(own, 0, 1), 100000 + 1000 * page + slot);
            }
        }
        Check.badState("one more", () -> store.write(own, 0, 1));
        Check.same("the last one is in the last slot", store.slot(3, 7), 0);
    }

    @Says("Keys are 0 to 5.")
    @Break(from = "KEYS = 6;", to = "KEYS = 5;")
    @Break(from = "KEYS = 6;", to = "KEYS = 7;")
    @Break(from = "keys[place] = key;", to = "keys[place] = key % 5;")
    static void sixKeys() {
        RowPages store = new RowPages();
        int own = store.begin();
        for (int key = 0; key < 6; key++) {
            store.write(own, key, 10 + key);
        }
        for (int key = 0; key < 6; key++) {
            Steps.reads("each has its own value", store, own, key, 10 + key);
            Check.same("and its own version", store.slot(0, key), key);
        }
        Check.badArgument("a seventh", () -> store.write(own, 6, 1));
    }

    @Says("A transaction inserts a key of which it sees no version")
    @Break(from = "boolean isNext = isPlace(old) && pageOf(old) == pageOf(place);",
            to = "boolean isNext = pageOf(Math.max(old, 0)) == pageOf(place) && index.counts[key] > 0;")
    @Break(from = "} else { index.add(key, place); }", to = "} else if (index.counts[key] == 0) { index.add(key, place); }")
    static void insertsBehindADeletion() {
        RowPages store = new RowPages();
        int own = store.begin();
        store.write(own, 0, 1);
        store.delete(own, 0);
        Check.same("no next one, though one lies there", store.write(own, 0, 2), 1);
        Check.same("an entry of its own", store.entries(0), 2);
        Check.same("the old one has no next", store.slot(0, 0), 20);
        Steps.reads("the new one", store, own, 0, 2);
    }

    @Says("changing gives the old version a death, and makes a new version")
    @Break(from = "if (isPlace(old)) { putDeath(transaction, old); }", to = "")
    @Break(from = "if (isPlace(old)) { putDeath(transaction, old); }", to = "if (old > 0) { putDeath(transaction, old); }")
    @Break(from = "slots.values[place] = value;", to = "slots.values[0] = value;")
    static void changingMakesTwo() {
        RowPages store = new RowPages();
        Steps.put(store, 0, 1);
        int reader = store.begin();
        int own = store.begin();
        store.write(own, 0, 2);
        Check.same("the old one has a death", store.slot(0, 0) / 10 % 10, 2);
        Check.same("the new one has none", store.slot(0, 1), 0);
        Check.same("two versions", store.fullness(0), 0.25f);
        Steps.reads("the old one", store, reader, 0, 1);
        Steps.reads("the new one", store, own, 0, 2);
    }

    @Says("A new version goes to the lowest free slot")
    @Break(from = "for (int place = first; place < first + length; place++) { if (!isUsed(place))",
            to = "for (int place = first + length - 1; place >= first; place--) { if (!isUsed(place))")
    static void insertsIntoTheLowestSlot() {
        RowPages store = withAHole();
        int own = store.begin();
        Check.same("the hole", store.write(own, 3, 1), 1);
        Check.same("behind the used one", store.write(own, 4, 1), 3);
    }

    @Says("of the page of the old one, if it has a free one")
    @Break(from = "slots.lowestFree(firstOf(pageOf(old)), SLOTS)", to = "slots.lowestFree(0, PLACES)")
    @Break(from = "slots.lowestFree(firstOf(pageOf(old)), SLOTS)", to = "slots.lowestFree(old, SLOTS - slotOf(old))")
    @Break(from = "slots.lowestFree(firstOf(pageOf(old)), SLOTS)", to = "slots.lowestFree(firstOf(pageOf(old)), SLOTS - 1)")
    static void changesInThePageOfTheOldOne() {
        RowPages store = withTheLastSlotOfPage1();
        int own = store.begin();
        Check.same("below the old one, not in the lower page", store.write(own, 0, 1), 101000);
        for (int slot = 1; slot < 7; slot++) {
            store.write(own, 0, slot);
        }
        Check.same("now the page is full", store.fullness(1), 1f);
        RowPages other = new RowPages();
        int writer = other.begin();
        Steps.write(other, writer, 0, 15);
        other.end(writer, true);
        other.clean(0);
        Check.same("its last free slot, not in the lower page", Steps.put(other, 0, 1), 101007);
    }

    @Says("and is the next one of the old one then")
    @Break(from = "if (isNext) { slots.nexts[old] = place; } else {", to = "if (!isNext) {")
    @Break(from = "slots.nexts[old] = place; } else { index.add(key, place); }",
            to = "slots.nexts[old] = place; } index.add(key, place);")
    static void nextOfTheOldOne() {
        RowPages store = new RowPages();
        Steps.put(store, 0, 1);
        Check.same("the answer tells it", Steps.put(store, 0, 2), 100001);
        Check.same("the old one's next is slot 1", store.slot(0, 0), 220);
        Check.same("no entry more", store.entries(0), 1);
    }

    @Says("in place of one of a transaction taken back that it may have")
    @Break(from = "slots.nexts[old] = place;", to = "if (!isPlace(slots.nexts[old])) { slots.nexts[old] = place; }")
    static void inPlaceOfADeadNext() {
        RowPages store = new RowPages();
        Steps.put(store, 0, 1);
        Steps.putAndTakeBack(store, 0, 2);
        Check.same("the dead one is the next", store.slot(0, 0), 200);
        int own = store.begin();
        Check.same("the new one", store.write(own, 0, 3), 100002);
        Check.same("is the next in its place", store.slot(0, 0), 320);
        Check.same("the dead one lies there still", store.slot(0, 1), 0);
        Steps.reads("the new one", store, own, 0, 3);
        store.end(own, true);
        Check.same("only the old one and the dead one go", store.clean(0), 2);
        Steps.reads("the new one", store, store.begin(), 0, 3);
    }

    @Says("otherwise, as for inserting, of the lowest page that has a free slot")
    @Break(from = "return slots.lowestFree(0, PLACES);", to = "return isPlace(old) ? NONE : slots.lowestFree(0, PLACES);")
    @Break(from = "return slots.lowestFree(0, PLACES);", to = "return slots.lowestFree(Math.max(old, 0), PLACES - Math.max(old, 0));")
    @Break(from = "return slots.lowestFree(0, PLACES);", to = "return slots.lowestFree(0, PLACES - 1);")
    static void fromAFullPageToTheLowest() {
        RowPages store = new RowPages();
        int own = store.begin();
        Steps.write(store, own, 0, 8);
        Check.same("to a higher page", store.write(own, 0, 8), 1000);
        Steps.write(store, own, 0, 7);
        store.end(own, true);
        Check.same("the whole lower page goes", store.clean(0), 8);
        int other = store.begin();
        Check.same("to a lower page", store.write(other, 0, 9), 0);
        Check.same("inserted there, too", store.write(other, 1, 1), 1);
        RowPages full = new RowPages();
        int writer = full.begin();
        Steps.write(full, writer, 0, 31);
        Check.same("the last slot of the last page", full.write(writer, 1, 1), 3007);
    }

    @Says("with a new entry of the index")
    @Break(from = "} else { index.add(key, place); }", to = "} else if (!isPlace(old)) { index.add(key, place); }")
    static void entryForTheOtherPage() {
        RowPages store = new RowPages();
        int own = store.begin();
        Steps.write(store, own, 0, 8);
        Check.same("one entry for a full page", store.entries(0), 1);
        Check.same("to the other page", store.write(own, 0, 8), 1000);
        Check.same("two entries", store.entries(0), 2);
        Steps.reads("by the new entry", store, own, 0, 8);
    }

    @Says("It may have a next version, in the same page")
    @Break(from = "boolean isNext = isPlace(old) && pageOf(old) == pageOf(place);", to = "boolean isNext = isPlace(old);")
    static void noNextInAnotherPage() {
        RowPages store = new RowPages();
        int own = store.begin();
        Steps.write(store, own, 0, 9);
        Check.same("the last one of page 0 has a death and no next", store.slot(0, 7), 20);
        Check.same("the one before it has", store.slot(0, 6), 820);
    }

    @Says("Writing is refused, if some version of the key has a birth")
    @Break(from = "(transactions.isRival(transaction, slots.births[place]) ||", to = "(")
    @Break(from = "for (int place = 0; place < PLACES; place++) { if (slots.keys[place] == key",
            to = "for (int place = 1; place < PLACES; place++) { if (slots.keys[place] == key")
    static void refusedByABirth() {
        RowPages store = new RowPages();
        int one = store.begin();
        int other = store.begin();
        store.write(one, 0, 1);
        Check.badState("in the first slot", () -> store.write(other, 0, 2));
    }

    @Says("or a death, of another transaction that is active")
    @Break(from = "|| transactions.isRival(transaction, slots.deaths[place]))", to = ")")
    @Break(from = "return has(active | committed, other) &&", to = "return has(committed, other) &&")
    @Break(from = "for (int place = 0; place < PLACES; place++) { if (slots.keys[place] == key",
            to = "for (int place = 0; place < PLACES - 1; place++) { if (slots.keys[place] == key")
    static void refusedByADeath() {
        RowPages store = new RowPages();
        int writer = store.begin();
        Steps.write(store, writer, 0, 31);
        store.write(writer, 1, 1);
        store.end(writer, true);
        store.clean(0);
        int one = store.begin();
        int other = store.begin();
        store.delete(one, 1);
        Check.badState("in the last slot", () -> store.write(other, 1, 2));
        Check.badState("nor deleted", () -> store.delete(other, 1));
    }

    @Says("or that has committed, but had not by the snapshot")
    @Break(from = "return has(active | committed, other) &&", to = "return has(active, other) &&")
    static void refusedByALaterCommit() {
        RowPages store = new RowPages();
        Steps.put(store, 0, 1);
        int early = store.begin();
        Steps.remove(store, 0);
        Steps.put(store, 1, 1);
        Check.badState("a death", () -> store.write(early, 0, 2));
        Check.badState("a birth", () -> store.write(early, 1, 2));
        Steps.reads("seen still", store, early, 0, 1);
    }

    @Says("Writing is refused, if some version of the key has")
    @Break(from = "slots.keys[place] == key && (transactions.isRival", to = "slots.isUsed(place) && (transactions.isRival")
    static void notRefusedByAnotherKey() {
        RowPages store = new RowPages();
        Steps.put(store, 0, 1);
        int one = store.begin();
        int other = store.begin();
        store.delete(one, 0);
        store.write(one, 1, 1);
        Check.same("of two others written", store.write(other, 2, 2), 2);
    }

    @Says("of another transaction that is active, or that has committed")
    @Break(from = "&& !knows(writer, other);", to = "&& !has(snapshots[writer], other);")
    @Break(from = "return has(active | committed, other) &&", to = "return wasBegun(other) &&")
    static void notRefusedByItselfNorByDead() {
        RowPages store = new RowPages();
        Steps.put(store, 0, 1);
        int early = store.begin();
        Steps.putAndTakeBack(store, 0, 2);
        Check.same("one that was taken back", store.write(early, 0, 3), 100002);
        Check.same("its own birth and death", store.write(early, 0, 4), 100003);
    }

    @Says("but had not by the snapshot")
    @Break(from = "&& !knows(writer, other);", to = "&& other != writer;")
    static void notRefusedByAnEarlierCommit() {
        RowPages store = new RowPages();
        Steps.put(store, 0, 1);
        Steps.put(store, 0, 2);
        Check.same("a birth and a death of ones that had committed", Steps.put(store, 0, 3), 100002);
    }

    @Says("the deaths that are its own are taken off")
    @Break(from = "slots.takeOffDeaths(transaction);", to = "")
    @Break(from = "if (deaths[place] == transaction)", to = "if (deaths[place] != NONE)")
    @Break(from = "if (!commits) { slots.", to = "if (transaction >= 0) { slots.")
    @Break(from = "place < PLACES; place++) { if (deaths[place] == transaction)",
            to = "place < PLACES - 1; place++) { if (deaths[place] == transaction)")
    @Break(from = "int place = 0; place < PLACES; place++) { if (deaths[place] == transaction)",
            to = "int place = 1; place < PLACES; place++) { if (deaths[place] == transaction)")
    static void ownDeathsTakenOff() {
        RowPages store = new RowPages();
        int writer = store.begin();
        store.write(writer, 0, 1);
        Steps.write(store, writer, 1, 30);
        store.write(writer, 2, 2);
        store.end(writer, true);
        int back = store.begin();
        store.delete(back, 0);
        store.delete(back, 2);
        Check.same("a death in the first slot", store.slot(0, 0), 20);
        Check.same("a death in the last slot", store.slot(3, 7), 22);
        int other = store.begin();
        store.delete(other, 1);
        store.end(back, false);
        Check.same("none in the first slot", store.slot(0, 0), 0);
        Check.same("none in the last slot", store.slot(3, 7), 2);
        Check.same("one of another transaction stays", store.slot(3, 6), 21);
        store.end(other, true);
        Check.same("one of a transaction that commits stays", store.slot(3, 6), 21);
        int reader = store.begin();
        Steps.reads("the first one", store, reader, 0, 1);
        Steps.reads("the last one", store, reader, 2, 2);
    }

    @Says(in = "Promise 9", value = "Inserts a key, or changes it, if the transaction sees it.")
    @Break(from = "int old = seenPlace(transaction, key); int place = placeForNew(old);",
            to = "int old = NONE; int place = placeForNew(old);")
    @Break(from = "int old = seenPlace(transaction, key); int place = placeForNew(old);",
            to = "int old = index.counts[key] > 0 ? index.places[key][0] : NONE; int place = placeForNew(old);")
    static void insertsOrChanges() {
        RowPages store = new RowPages();
        Steps.putAndTakeBack(store, 0, 1);
        int own = store.begin();
        Check.same("it sees none, though a dead one lies there", store.write(own, 0, 2), 1);
        Check.same("it sees it", store.write(own, 0, 3), 100002);
        Check.same("the one that it saw has the death", store.slot(0, 1), 320);
        Check.same("the dead one has none", store.slot(0, 0), 0);
    }

    @Says(in = "Promise 9", value = "- `key`: 0 to 5")
    @Break(from = "if (key < 0 || key >= KEYS)", to = "if (key <= 0 || key >= KEYS)")
    @Break(from = "KEYS = 6;", to = "KEYS = 5;")
    static void writeOfTheFirstAndTheLastKey() {
        RowPages store = new RowPages();
        int own = store.begin();
        Check.same("key 0", store.write(own, 0, 1), 0);
        Check.same("key 5", store.write(own, 5, 1), 1);
    }

    @Says(in = "Promise 9", value = "- `value`: 0 to 9999")
    @Break(from = "if (value < 0 || value >= VALUES)", to = "if (value <= 0 || value >= VALUES)")
    @Break(from = "VALUES = 10000;", to = "VALUES = 9999;")
    static void leastAndGreatestValue() {
        RowPages store = new RowPages();
        int own = store.begin();
        store.write(own, 0, 0);
        Steps.reads("the least value", store, own, 0, 0);
        store.write(own, 0, 9999);
        Steps.reads("the greatest value", store, own, 0, 9999);
    }

    @Says(in = "Promise 9", value = "Returns 1000 times the page plus the slot of the new version, plus 100000 if it is the next one of the old one.")
    @Break(from = "(isNext ? 100000 : 0)", to = "(isPlace(old) ? 100000 : 0)")
    @Break(from = "return 1000 * pageOf(place) + slotOf(place)", to = "return 1000 * pageOf(place) + place")
    static void writeTellsPageAndSlot() {
        RowPages store = new RowPages();
        int own = store.begin();
        Check.same("inserted", store.write(own, 0, 1), 0);
        Steps.write(store, own, 0, 7);
        Check.same("changed to another page", store.write(own, 0, 1), 1000);
        Check.same("changed in it", store.write(own, 0, 1), 101001);
        Check.same("inserted in it", store.write(own, 1, 1), 1002);
    }

    @Says(in = "Promise 9", value = "Throws `IndexOutOfBoundsException` if there never was such a transaction")
    @Break(from = "checkTransaction(transaction); checkKey(key); checkValue", to = "checkKey(key); checkValue")
    @Break(from = "return transaction >= 0 && transaction < count;", to = "return transaction >= 0 && transaction <= count;")
    static void writeByNone() {
        RowPages store = new RowPages();
        Check.noTransactions("write", 0, number -> store.write(number, 0, 1));
        store.begin();
        Check.noTransactions("write", 1, number -> store.write(number, 0, 1));
    }

    @Says(in = "Promise 9", value = "Throws `IllegalArgumentException` if key or value is out of range")
    @Break(from = "checkKey(key); checkValue(value);", to = "checkValue(value);")
    @Break(from = "checkKey(key); checkValue(value);", to = "checkKey(key);")
    @Break(from = "if (key < 0 || key >= KEYS)", to = "if (key < 0 || key > KEYS)")
    @Break(from = "if (value < 0 || value >= VALUES)", to = "if (value < 0 || value > VALUES)")
    @Break(from = "if (value < 0 || value >= VALUES)", to = "if (value < -1 || value >= VALUES)")
    static void writeOfABadKeyOrValue() {
        RowPages store = new RowPages();
        store.begin();
        Check.badArguments("write with key", 0, 5, key -> store.write(0, key, 1));
        Check.badArguments("write with value", 0, 9999, value -> store.write(0, 0, value));
    }

    @Says(in = "Promise 9", value = "Throws `IllegalStateException` if it is not active")
    @Break(from = "checkActive(transaction); checkNotRefused(transaction, key); int old", to = "checkNotRefused(transaction, key); int old")
    static void writeByOneThatEnded() {
        RowPages store = new RowPages();
        store.begin();
        store.begin();
        store.end(0, true);
        store.end(1, false);
        Check.badState("write by one that committed", () -> store.write(0, 0, 1));
        Check.badState("write by one that was taken back", () -> store.write(1, 0, 1));
    }

    @Says(in = "Promise 9", value = "writing is refused, or no slot is free")
    @Break(from = "if (!isPlace(place)) { throw new IllegalStateException(\"no slot is free\"); }",
            to = "if (!isPlace(place)) { place = PLACES - 1; }")
    @Break(from = "checkActive(transaction); checkNotRefused(transaction, key); int old", to = "checkActive(transaction); int old")
    static void writeWithoutRoomOrRefused() {
        RowPages store = new RowPages();
        int own = store.begin();
        int other = store.begin();
        Steps.write(store, own, 0, 31);
        Check.badState("refused, with a slot free", () -> store.write(other, 0, 1));
        Check.same("the last slot", store.write(other, 1, 1), 3007);
        Check.badState("no slot to insert", () -> store.write(own, 2, 1));
        Check.badState("no slot to change", () -> store.write(own, 0, 1));
        Check.same("the value stands", store.read(own, 0), 30);
    }

    @Says(in = "Promise 10", value = "Returns whether the transaction saw it.")
    @Break(from = "if (!isPlace(place)) { return false; }", to = "if (!isPlace(place)) { return index.counts[key] > 0; }")
    @Break(from = "if (!isPlace(place)) { return false; }", to = "if (place <= 0 || !isPlace(place)) { return false; }")
    static void deleteTellsWhetherItSaw() {
        RowPages store = new RowPages();
        Steps.put(store, 0, 1);
        int own = store.begin();
        Check.same("never written", store.delete(own, 1), false);
        Check.same("in slot 0", store.delete(own, 0), true);
        Check.same("deleted by itself", store.delete(own, 0), false);
        store.end(own, true);
        int other = store.begin();
        Check.same("deleted ahead of it", store.delete(other, 0), false);
    }

    @Says("and deletes, or changes, the version that it sees")
    @Break(from = "putDeath(transaction, place); return true;", to = "return true;")
    static void deletingGivesADeath() {
        RowPages store = new RowPages();
        Steps.put(store, 0, 1);
        int own = store.begin();
        store.delete(own, 0);
        Check.same("a death", store.slot(0, 0), 20);
        Check.same("no version more", store.fullness(0), 0.125f);
        Check.same("the entry stays", store.entries(0), 1);
    }

    @Says(in = "Promise 10", value = "- `key`: 0 to 5")
    @Break(from = "if (key < 0 || key >= KEYS)", to = "if (key <= 0 || key >= KEYS)")
    @Break(from = "if (key < 0 || key >= KEYS)", to = "if (key < 0 || key >= KEYS - 1)")
    static void deleteOfTheFirstAndTheLastKey() {
        RowPages store = new RowPages();
        int own = store.begin();
        Check.same("key 0", store.delete(own, 0), false);
        Check.same("key 5", store.delete(own, 5), false);
    }

    @Says(in = "Promise 10", value = "Throws `IndexOutOfBoundsException` if there never was such a transaction")
    @Break(from = "checkTransaction(transaction); checkKey(key); checkActive(transaction); int place = seenPlace(transaction, key);"
            + " if (!isPlace(place))",
            to = "checkKey(key); checkActive(transaction); int place = seenPlace(transaction, key); if (!isPlace(place))")
    @Break(from = "return transaction >= 0 && transaction < count;", to = "return transaction >= 0 && transaction <= count;")
    static void deleteByNone() {
        RowPages store = new RowPages();
        Check.noTransactions("delete", 0, number -> store.delete(number, 0));
        store.begin();
        Check.noTransactions("delete", 1, number -> store.delete(number, 0));
    }

    @Says(in = "Promise 10", value = "Throws `IllegalArgumentException` if key is out of range")
    @Break(from = "checkTransaction(transaction); checkKey(key); checkActive(transaction); int place = seenPlace(transaction, key);"
            + " if (!isPlace(place))",
            to = "checkTransaction(transaction); checkActive(transaction); if (key < 0 || key >= KEYS) { return false; }"
                    + " int place = seenPlace(transaction, key); if (!isPlace(place))")
    @Break(from = "if (key < 0 || key >= KEYS)", to = "if (key < 0 || key > KEYS)")
    @Break(from = "if (key < 0 || key >= KEYS)", to = "if (key < -1 || key >= KEYS)")
    static void deleteOfABadKey() {
        RowPages store = new RowPages();
        store.begin();
        Check.badArguments("delete", 0, 5, key -> store.delete(0, key));
    }

    @Says(in = "Promise 10", value = "Throws `IllegalStateException` if it is not active")
    @Break(from = "checkActive(transaction); int place = seenPlace(transaction, key); if (!isPlace(place))",
            to = "int place = seenPlace(transaction, key); if (!isPlace(place))")
    static void deleteByOneThatEnded() {
        RowPages store = new RowPages();
        store.begin();
        store.begin();
        store.end(0, true);
        store.end(1, false);
        Check.badState("delete by one that committed", () -> store.delete(0, 0));
        Check.badState("delete by one that was taken back", () -> store.delete(1, 0));
    }

    @Says(in = "Promise 10", value = "or it sees the key and writing is refused")
    @Break(from = "int place = seenPlace(transaction, key); if (!isPlace(place)) { return false; } checkNotRefused(transaction, key);",
            to = "checkNotRefused(transaction, key); int place = seenPlace(transaction, key); if (!isPlace(place)) { return false; }")
    @Break(from = "return false; } checkNotRefused(transaction, key);", to = "return false; }")
    static void deleteRefusedOnlyIfItSees() {
        RowPages store = new RowPages();
        Steps.put(store, 0, 1);
        int one = store.begin();
        int other = store.begin();
        store.write(one, 0, 2);
        store.write(one, 1, 2);
        Check.badState("it sees the old one", () -> store.delete(other, 0));
        Check.same("it sees none", store.delete(other, 1), false);
        store.end(one, true);
        Check.badState("it sees the old one still", () -> store.delete(other, 0));
        Check.same("it sees none still", store.delete(other, 1), false);
    }

    @Says(in = "Promise 10", value = "Deletes a key.")
    @Break(from = "return false; } checkNotRefused(transaction, key);",
            to = "return false; } checkNotRefused(transaction, key);"
                    + " if (!isPlace(slots.lowestFree(0, PLACES))) { throw new IllegalStateException(\"\"); }")
    static void deleteNeedsNoSlot() {
        RowPages store = new RowPages();
        int own = store.begin();
        Steps.write(store, own, 0, 32);
        Check.same("with all slots full", store.delete(own, 0), true);
        Check.same("it is gone for it", store.read(own, 0), -1);
    }
}
