/** Boundary cases of cleaning and freezing: of the Terms and of promises 11 and 12. */
final class CleaningBoundaries {
    private CleaningBoundaries() {
    }

    @Says("A version can go, if its birth is of a transaction that was taken back")
    @Break(from = "(transactions.isTakenBack(slots.births[place]) ||", to = "(")
    @Break(from = "return wasBegun(transaction) && !has(active | committed, transaction);",
            to = "return wasBegun(transaction) && !has(committed, transaction);")
    @Break(from = "return wasBegun(transaction) && !has(active | committed, transaction);",
            to = "return wasBegun(transaction) && !has(active, transaction);")
    static void deadOnesGoAtOnce() {
        RowPages store = new RowPages();
        int early = store.begin();
        store.write(early, 0, 1);
        Steps.put(store, 1, 1);
        Steps.putAndTakeBack(store, 2, 1);
        Check.same("the dead one, though one was active all along", store.clean(0), 1);
        Check.same("not the active one's", store.slot(0, 0), 0);
        Check.same("not the committed one's", store.slot(0, 1), 1);
        Check.same("it left its slot", store.slot(0, 2), -1);
    }

    @Says("or if it has a death of a transaction that has committed")
    @Break(from = "|| Transactions.has(settled, slots.deaths[place]))", to = "|| slots.hasDeath(place))")
    @Break(from = "|| Transactions.has(settled, slots.deaths[place]))", to = ")")
    static void deathOfOneThatCommitted() {
        RowPages store = new RowPages();
        Steps.put(store, 0, 1);
        int remover = store.begin();
        store.delete(remover, 0);
        Check.same("it is active", store.clean(0), 0);
        store.end(remover, true);
        Check.same("it has committed", store.clean(0), 1);
    }

    @Says("and had, by the snapshot of each active one")
    @Break(from = "set &= snapshots[transaction];", to = "set = snapshots[transaction];")
    @Break(from = "set &= snapshots[transaction];", to = "")
    @Break(from = "if (isActive(transaction)) { set &= snapshots[transaction]; }", to = "set &= snapshots[transaction];")
    static void deathInEachSnapshot() {
        RowPages store = new RowPages();
        Steps.put(store, 0, 1);
        int early = store.begin();
        Steps.remove(store, 0);
        int late = store.begin();
        Check.same("in the later snapshot, not in the earlier", store.clean(0), 0);
        Steps.reads("the earlier one sees it", store, early, 0, 1);
        store.end(early, true);
        Check.same("in each", store.clean(0), 1);
        Steps.reads("the later one does not", store, late, 0, -1);
        Steps.put(store, 1, 1);
        int active = store.begin();
        Steps.remove(store, 1);
        store.end(late, true);
        store.end(active, false);
        Check.same("none is active", store.clean(0), 1);
    }

    @Says("what was next to it becomes next to the one whose next it was")
    @Break(from = "slots.bypass(place, next);", to = "")
    @Break(from = "slots.bypass(place, next);", to = "slots.bypass(place, NONE);")
    static void chainBypassesWhatWent() {
        RowPages store = new RowPages();
        Steps.putAndTakeBack(store, 5, 0);
        Steps.put(store, 0, 1);
        store.clean(0);
        Steps.put(store, 0, 2);
        Steps.put(store, 0, 3);
        Check.same("the first one is in slot 1", store.slot(0, 1), 120);
        Check.same("its next in slot 0", store.slot(0, 0), 320);
        Check.same("the second one goes ahead of the first one", store.clean(0), 2);
        Check.same("the third one is found", store.entries(0), 1);
        Steps.reads("by the entry", store, store.begin(), 0, 3);
    }

    @Says("In a page each version that can go leaves its slot; what was next to it")
    @Break(from = "slots.bypass(place, next);", to = "")
    @Break(from = "for (int other = 0; other < PLACES; other++) { if (nexts[other] == place)",
            to = "for (int other = 1; other < PLACES; other++) { if (nexts[other] == place)")
    @Break(from = "for (int other = 0; other < PLACES; other++) { if (nexts[other] == place)",
            to = "for (int other = 0; other < PLACES - 2; other++) { if (nexts[other] == place)")
    static void noNextIsLeft() {
        RowPages store = new RowPages();
        Steps.put(store, 0, 1);
        int back = store.begin();
        Steps.write(store, back, 0, 2);
        Check.same("a chain of three", store.slot(0, 1), 320);
        store.end(back, false);
        Check.same("two go", store.clean(0), 2);
        Check.same("the first one of the page has no next", store.slot(0, 0), 0);
        RowPages full = new RowPages();
        int writer = full.begin();
        Steps.write(full, writer, 1, 30);
        full.write(writer, 0, 1);
        full.end(writer, true);
        Steps.putAndTakeBack(full, 0, 2);
        Check.same("the last but one has a next", full.slot(3, 6), 800);
        Check.same("five of the other key go, and the dead one", full.clean(3), 6);
        Check.same("it has none", full.slot(3, 6), 0);
    }

    @Says("if an entry of the index points to it, the entry points to the slot of its next version then")
    @Break(from = "index.move(slots.keys[place], place, next);", to = "")
    @Break(from = "index.move(slots.keys[place], place, next);", to = "index.move(slots.keys[place], place, NONE);")
    static void entryPointsToTheNext() {
        RowPages store = new RowPages();
        Steps.put(store, 0, 1);
        Steps.put(store, 0, 2);
        Check.same("the first one of the chain goes", store.clean(0), 1);
        Check.same("its entry stays", store.entries(0), 1);
        Steps.put(store, 1, 9);
        Steps.reads("and points to the next", store, store.begin(), 0, 2);
    }

    @Says("or is gone, if it has none")
    @Break(from = "if (place != NONE) { places[key][kept] = place;", to = "if (kept < PLACES) { places[key][kept] = place;")
    @Break(from = "if (place != NONE) { places[key][kept] = place; kept++; } } counts[key] = kept;",
            to = "if (place != NONE) { places[key][kept] = place; kept++; } else { break; } } counts[key] = kept;")
    static void entryIsGone() {
        RowPages store = new RowPages();
        Steps.put(store, 0, 1);
        int reader = store.begin();
        Steps.remove(store, 0);
        Steps.putAndTakeBack(store, 0, 2);
        Steps.put(store, 0, 3);
        Check.same("three entries", store.entries(0), 3);
        Check.same("the middle one's version goes", store.clean(0), 1);
        Check.same("the middle entry is gone", store.entries(0), 2);
        Steps.reads("the first one is there", store, reader, 0, 1);
        Steps.reads("the last one is there", store, store.begin(), 0, 3);
        RowPages empty = new RowPages();
        Steps.putAndTakeBack(empty, 0, 1);
        empty.clean(0);
        Check.same("the only entry is gone", empty.entries(0), 0);
    }

    @Says("if the age of the birth of a version is at least the freezing age, 20 at first")
    @Break(from = "transactions.ageOf(slots.birthStamps[place]) >= freezingAge", to = "transactions.ageOf(slots.birthStamps[place]) > freezingAge")
    @Break(from = "FIRST_FREEZING_AGE = 20;", to = "FIRST_FREEZING_AGE = 19;")
    @Break(from = "FIRST_FREEZING_AGE = 20;", to = "FIRST_FREEZING_AGE = 21;")
    static void frozenFromAge20On() {
        RowPages store = new RowPages();
        Steps.put(store, 0, 1);
        store.jump(18);
        Check.same("at 19", store.oldest(), 19);
        store.clean(0);
        Check.same("it is not frozen", store.slot(0, 0), 0);
        store.jump(1);
        store.clean(0);
        Check.same("at 20 it is", store.slot(0, 0), 10);
        RowPages other = new RowPages();
        Steps.put(other, 0, 1);
        Steps.jump(other, 20, 10);
        other.clean(0);
        Check.same("at 31, too", other.slot(0, 0), 10);
    }

    @Says("and its transaction has committed, and had, by the snapshot of each active one, it is frozen")
    @Break(from = ">= freezingAge && Transactions.has(settled, slots.births[place])", to = ">= freezingAge")
    @Break(from = ">= freezingAge && Transactions.has(settled, slots.births[place])",
            to = ">= freezingAge && Transactions.has(transactions.committed, slots.births[place])")
    static void frozenForEachSnapshot() {
        RowPages store = new RowPages();
        store.setFreezing(1);
        int early = store.begin();
        int writer = store.begin();
        store.write(writer, 0, 1);
        store.clean(0);
        Check.same("of an active one", store.slot(0, 0), 0);
        store.end(writer, true);
        store.clean(0);
        Check.same("committed behind a snapshot", store.slot(0, 0), 0);
        store.end(early, true);
        store.clean(0);
        Check.same("committed for each", store.slot(0, 0), 10);
    }

    @Says("a birth may be frozen")
    @Break(from = "if (slots.isUsed(place) && transactions.ageOf", to = "if (slots.isUsed(place) && !slots.hasDeath(place) && transactions.ageOf")
    @Break(from = "births[place] = NONE; frozen[place] = false;", to = "births[place] = NONE;")
    static void frozenWithADeathAndNotItsFollower() {
        RowPages store = new RowPages();
        store.setFreezing(1);
        Steps.put(store, 0, 1);
        int reader = store.begin();
        Steps.remove(store, 0);
        store.clean(0);
        Check.same("frozen with a death", store.slot(0, 0), 30);
        store.end(reader, true);
        Check.same("it goes, though it is frozen", store.clean(0), 1);
        Steps.put(store, 1, 1);
        Check.same("what comes in its slot is not frozen", store.slot(0, 0), 1);
    }

    @Says(in = "Promise 11", value = "- `page`: 0 to 3")
    @Break(from = "if (page < 0 || page >= PAGES)", to = "if (page <= 0 || page >= PAGES)")
    @Break(from = "if (page < 0 || page >= PAGES)", to = "if (page < 0 || page >= PAGES - 1)")
    static void cleanTheFirstAndTheLastPage() {
        RowPages store = new RowPages();
        int back = store.begin();
        Steps.write(store, back, 0, 32);
        store.end(back, false);
        Check.same("page 0", store.clean(0), 8);
        Check.same("page 3", store.clean(3), 8);
        Check.same("page 1 is as it was", store.fullness(1), 1f);
        Check.same("page 2 is as it was", store.fullness(2), 1f);
    }

    @Says(in = "Promise 11", value = "Returns how many versions went.")
    @Break(from = "takeOut(place); gone++;", to = "takeOut(place); gone = 1;")
    @Break(from = "place < firstOf(page) + SLOTS; place++) { if (canGo", to = "place < firstOf(page) + SLOTS - 1; place++) { if (canGo")
    @Break(from = "int place = firstOf(page); place < firstOf(page) + SLOTS; place++) { if (canGo",
            to = "int place = firstOf(page) + 1; place < firstOf(page) + SLOTS; place++) { if (canGo")
    static void cleanCountsFrom0To8() {
        RowPages store = new RowPages();
        Check.same("an empty page", store.clean(1), 0);
        int back = store.begin();
        Steps.write(store, back, 0, 8);
        Check.same("none of a full page", store.clean(0), 0);
        store.end(back, false);
        Check.same("all of a full page", store.clean(0), 8);
        Check.same("it is empty", store.fullness(0), 0f);
        Check.same("just once", store.clean(0), 0);
    }

    @Says(in = "Promise 11", value = "Throws `IllegalArgumentException` if page is out of range")
    @Break(from = "checkPage(page); long settled = transactions.settled(); int gone",
            to = "if (page < 0 || page >= PAGES) { return 0; } long settled = transactions.settled(); int gone")
    @Break(from = "if (page < 0 || page >= PAGES)", to = "if (page < 0 || page > PAGES)")
    @Break(from = "if (page < 0 || page >= PAGES)", to = "if (page < -1 || page >= PAGES)")
    static void cleanOfABadPage() {
        RowPages store = new RowPages();
        Check.badArguments("clean", 0, 3, store::clean);
    }

    @Says(in = "Promise 12", value = "- `age`: 1 to 27")
    @Break(from = "if (age < 1 ||", to = "if (age < 2 ||")
    @Break(from = "GREATEST_FREEZING_AGE = 27;", to = "GREATEST_FREEZING_AGE = 26;")
    static void leastAndGreatestFreezingAge() {
        RowPages store = new RowPages();
        store.setFreezing(1);
        Steps.put(store, 0, 1);
        store.clean(0);
        Check.same("1: frozen at 1", store.slot(0, 0), 10);
        store.setFreezing(27);
        Steps.put(store, 1, 1);
        Steps.jump(store, 20, 5);
        store.clean(0);
        Check.same("27: not at 26", store.slot(0, 1), 1);
        store.jump(1);
        store.clean(0);
        Check.same("27: frozen at 27", store.slot(0, 1), 11);
    }

    @Says(in = "Promise 12", value = "Returns the age before.")
    @Break(from = "freezingAge = age; return before;", to = "freezingAge = age; return freezingAge;")
    @Break(from = "freezingAge = age; return before;", to = "return before;")
    static void freezingAgeBefore() {
        RowPages store = new RowPages();
        Check.same("of a new object", store.setFreezing(1), 20);
        Check.same("the least", store.setFreezing(27), 1);
        Check.same("the greatest", store.setFreezing(27), 27);
    }

    @Says(in = "Promise 12", value = "Throws `IllegalArgumentException` if age is out of range")
    @Break(from = "if (age < 1 ||", to = "if (age < 0 ||")
    @Break(from = "GREATEST_FREEZING_AGE = 27;", to = "GREATEST_FREEZING_AGE = 28;")
    static void freezingAgeOutOfRange() {
        RowPages store = new RowPages();
        Check.badArguments("setFreezing", 1, 27, store::setFreezing);
    }
}
