/** What the document says of ordinary cases: in its opening, in the Terms, and at the head of each promise. */
final class OrdinarySentences {
    private OrdinarySentences() {
    }

    @Says(in = "What it is", value = "versions of rows lie in pages")
    @Break(from = "return slots.lowestFree(0, PLACES);", to = "return slots.lowestFree(0, SLOTS);")
    @Break(from = "return place % SLOTS;", to = "return place / PAGES;")
    static void versionsLieInPages() {
        RowPages store = new RowPages();
        int own = store.begin();
        Check.same("in the first page", store.write(own, 4, 1), 0);
        Steps.write(store, own, 5, 7);
        Check.same("in the second page", store.write(own, 3, 1), 1000);
        Check.same("the first version", store.slot(0, 0), 4);
        Check.same("the last of the first page", store.slot(0, 7), 5);
        Check.same("the first of the second page", store.slot(1, 0), 3);
    }

    @Says(in = "What it is", value = "with stamps of birth and death that go round a circle")
    @Break(from = "nextStamp = (nextStamp + stampCount) % STAMPS;", to = "nextStamp = nextStamp + stampCount;")
    @Break(from = "return Math.floorMod(to - from, STAMPS);", to = "return Math.max(to - from, 0);")
    static void stampsGoRoundACircle() {
        RowPages store = new RowPages();
        Steps.jump(store, 20, 20, 20, 2);
        Steps.put(store, 0, 1);
        Steps.remove(store, 0);
        int reader = store.begin();
        Check.same("behind the stamps 62 and 63", store.stamp(reader), 0);
        Check.same("the birth, from 62 to 1", store.oldest(), 3);
        store.end(reader, true);
        Check.same("the version goes", store.clean(0), 1);
        Steps.put(store, 0, 1);
        Check.same("the birth, from 1 to 2", store.oldest(), 1);
    }

    @Says(in = "What it is", value = "a new version stays in the page of the old one, if there is room")
    @Break(from = "int near = slots.lowestFree(firstOf(pageOf(old)), SLOTS);", to = "int near = NONE;")
    static void newVersionStaysInThePage() {
        RowPages store = new RowPages();
        Check.same("key 1 in the second page", keyInTheSecondPage(store), 1000);
        store.clean(0);
        Check.same("the first page is empty", store.fullness(0), 0f);
        Check.same("the new version stays", Steps.put(store, 1, 2), 101001);
    }

    /** Inserts key 1 where the first page is full of versions taken back. */
    private static int keyInTheSecondPage(RowPages store) {
        int filler = store.begin();
        Steps.write(store, filler, 0, 8);
        store.end(filler, false);
        return Steps.put(store, 1, 1);
    }

    @Says(in = "What it is", value = "and the index points to the first one of such a chain alone")
    @Break(from = "slots.nexts[old] = place; } else { index.add(key, place); }",
            to = "slots.nexts[old] = place; index.add(key, place); } else { index.add(key, place); }")
    @Break(from = "boolean isNext = isPlace(old) && pageOf(old) == pageOf(place);", to = "boolean isNext = isPlace(old);")
    static void oneEntryAChain() {
        RowPages store = new RowPages();
        int own = store.begin();
        for (int slot = 0; slot < 8; slot++) {
            store.write(own, 0, slot);
            Check.same("one for a chain of " + (slot + 1), store.entries(0), 1);
        }
        store.write(own, 0, 8);
        Check.same("another one for the chain in another page", store.entries(0), 2);
        store.write(own, 0, 9);
        Check.same("and none for the next one of that", store.entries(0), 2);
    }

    @Says(in = "What it is", value = "a map tells pages that everybody sees whole")
    @Break(from = "mapped[page] = isWhole(page);", to = "mapped[page] = true;")
    @Break(from = "mapped[page] = isWhole(page);", to = "")
    static void mapOfWholePages() {
        RowPages store = new RowPages();
        Steps.put(store, 0, 1);
        int own = store.begin();
        store.write(own, 1, 1);
        store.clean(0);
        Check.same("others don't see a version of an active one", store.isMapped(0), false);
        store.end(own, true);
        store.clean(0);
        Check.same("everybody sees all of it", store.isMapped(0), true);
    }

    @Says(in = "What it is", value = "a page is cleaned of what nobody can see any more")
    @Break(from = "takeOut(place); gone++;", to = "gone++;")
    @Break(from = "if (canGo(place, settled)) {", to = "if (slots.hasDeath(place)) {")
    static void cleanedOfWhatNobodyCanSee() {
        RowPages store = new RowPages();
        Steps.put(store, 0, 1);
        int early = store.begin();
        Steps.put(store, 0, 2);
        Check.same("the old one can be seen", store.clean(0), 0);
        Steps.reads("by one that began early", store, early, 0, 1);
        store.end(early, true);
        Check.same("nobody can see it any more", store.clean(0), 1);
        Check.same("it is gone", store.slot(0, 0), -1);
        Check.same("the new one stays", store.slot(0, 1), 0);
    }

    @Says(in = "What it is", value = "and old stamps are frozen")
    @Break(from = "slots.frozen[place] = true;", to = "")
    @Break(from = "transactions.ageOf(slots.birthStamps[place]) >= freezingAge", to = "freezingAge > 0")
    static void oldStampsAreFrozen() {
        RowPages store = new RowPages();
        Steps.put(store, 0, 1);
        store.jump(20);
        Steps.put(store, 1, 1);
        store.clean(0);
        Check.same("an old one", store.slot(0, 0), 10);
        Check.same("a young one", store.slot(0, 1), 1);
    }

    @Says(in = "What it is", value = "what a transaction reads is told by chains and stamps, and by a table of all versions with plain numbers")
    @Break(from = "return table.values[row];", to = "return 7;")
    @Break(from = "return isPlace(place) ? slots.values[place] : NONE;", to = "return isPlace(place) ? 7 : NONE;")
    @Break(from = "table.births[row])", to = "slots.births[0])")
    static void toldInTwoWays() {
        RowPages store = new RowPages();
        Steps.put(store, 0, 5);
        int early = store.begin();
        Steps.put(store, 0, 6);
        int late = store.begin();
        store.write(late, 1, 8);
        Steps.reads("the old one", store, early, 0, 5);
        Steps.reads("the new one", store, late, 0, 6);
        Steps.reads("one of another transaction", store, early, 1, -1);
        Steps.reads("an own one", store, late, 1, 8);
    }

    @Says(in = "What it is", value = "what later calls answer is free")
    @Break(from = "if (count >= ROWS) { return NONE; }", to = "")
    @Break(from = "if (row >= 0 && row < count) {", to = "if (row < count) {")
    static void laterCallsAnswerToo() {
        RowPages store = new RowPages();
        int calls = 0;
        while (calls < 2000) {
            int own = store.begin();
            Steps.write(store, own, calls % 6, 32);
            store.delete(own, calls % 6);
            store.readPlain(own, calls % 6);
            store.end(own, false);
            for (int page = 0; page < 4; page++) {
                store.clean(page);
            }
            calls += 40;
        }
        Check.same("the machine has thrown nothing", calls, 2000);
    }

    @Says("each has a stamp")
    @Break(from = "stamps[transaction] = nextStamp;", to = "")
    @Break(from = "return transactions.stamps[transaction];", to = "return transactions.nextStamp - 1;")
    static void eachHasAStamp() {
        RowPages store = new RowPages();
        store.begin();
        store.jump(4);
        store.begin();
        Check.same("the first one's", store.stamp(0), 0);
        Check.same("the second one's", store.stamp(1), 5);
    }

    @Says("A version has a key, a value, a birth and perhaps a death, each a stamp with the transaction it is of")
    @Break(from = "slots.birthStamps[place] = transactions.stamps[transaction];", to = "")
    @Break(from = "slots.deathStamps[place] = transactions.stamps[transaction];", to = "")
    @Break(from = "slots.births[place] = transaction;", to = "slots.births[place] = 0;")
    @Break(from = "slots.deaths[place] = transaction;", to = "slots.deaths[place] = 0;")
    @Break(from = "slots.values[place] = value;", to = "slots.values[place] = key;")
    static void whatAVersionHas() {
        RowPages store = new RowPages();
        Steps.put(store, 3, 1);
        store.jump(6);
        Steps.put(store, 4, 2);
        store.setFreezing(4);
        store.clean(0);
        Check.same("one frozen, of key 3", store.slot(0, 0), 13);
        Check.same("one of key 4", store.slot(0, 1), 4);
        Check.same("its birth has the stamp 7", store.oldest(), 1);
        int reader = store.begin();
        int remover = store.begin();
        store.delete(remover, 3);
        Steps.reads("the death is of another one", store, reader, 3, 1);
        Steps.reads("the death is its own", store, remover, 3, -1);
        Steps.reads("the value", store, reader, 4, 2);
        store.end(reader, true);
        store.end(remover, true);
        store.jump(8);
        store.clean(0);
        Check.same("the birth of stamp 7 is frozen", store.slot(0, 1), 14);
        Steps.remove(store, 4);
        store.jump(3);
        Check.same("its death has the stamp 18", store.oldest(), 4);
        int writer = store.begin();
        store.write(writer, 5, 3);
        int other = store.begin();
        Steps.reads("a birth of another one", store, other, 5, -1);
    }

    @Says("It lies in a slot.")
    @Break(from = "slots.keys[place] = key;", to = "if (place > 0) { slots.keys[place] = key; }")
    @Break(from = "void empty(int place) { keys[place] = NONE;", to = "void empty(int place) { keys[place] = nexts[place] > 0 ? 0 : NONE;")
    static void versionLiesInASlot() {
        RowPages store = new RowPages();
        Check.same("put into slot 0", Steps.put(store, 2, 1), 0);
        Check.same("it lies there", store.slot(0, 0), 2);
        Check.same("put into slot 1", Steps.put(store, 2, 2), 100001);
        Check.same("the other one stays", store.slot(0, 0), 222);
        Check.same("it lies behind it", store.slot(0, 1), 2);
        store.clean(0);
        Check.same("until it goes", store.slot(0, 0), -1);
    }

    @Says("to which its key was changed")
    @Break(from = "slots.nexts[old] = place;", to = "slots.nexts[place] = old;")
    @Break(from = "slots.nexts[old] = place;", to = "")
    static void nextVersionOfAChange() {
        RowPages store = new RowPages();
        Steps.put(store, 0, 1);
        Steps.put(store, 1, 1);
        Check.same("inserting makes no next one", store.slot(0, 0), 0);
        Steps.put(store, 0, 2);
        Check.same("changing does, in slot 2", store.slot(0, 0), 320);
        Check.same("it has none itself", store.slot(0, 2), 0);
        Steps.remove(store, 1);
        Check.same("deleting makes none", store.slot(0, 1), 21);
    }

    @Says("The index has for each key entries, each a slot of a page")
    @Break(from = "return index.counts[key];", to = "return index.counts[0];")
    @Break(from = "index.add(key, place);", to = "index.add(key, slotOf(place));")
    static void entriesOfEachKey() {
        RowPages store = new RowPages();
        int filler = store.begin();
        Steps.write(store, filler, 0, 8);
        store.write(filler, 1, 11);
        store.end(filler, true);
        Check.same("of key 0", store.entries(0), 1);
        Check.same("of key 1", store.entries(1), 1);
        Check.same("of key 2", store.entries(2), 0);
        int reader = store.begin();
        Steps.reads("by the entry that is a slot of page 0", store, reader, 0, 7);
        Steps.reads("by the entry that is a slot of page 1", store, reader, 1, 11);
    }

    @Says(in = "Promise 2", value = "Begins a transaction.")
    @Break(from = "active |= 1L << transaction;", to = "")
    @Break(from = "return transactions.start();", to = "return transactions.count;")
    static void beginsATransaction() {
        RowPages store = new RowPages();
        int own = store.begin();
        Check.same("it can write", store.write(own, 0, 1), 0);
        Check.same("it is the only one", store.end(own, true), 0);
    }

    @Says(in = "Promise 3", value = "Ends a transaction.")
    @Break(from = "transactions.finish(transaction, commits);", to = "")
    static void endsATransaction() {
        RowPages store = new RowPages();
        int own = store.begin();
        store.write(own, 0, 1);
        Check.same("none is left", store.end(own, true), 0);
        Check.badState("it can't write", () -> store.write(own, 0, 2));
        Check.same("others read what it wrote", Steps.look(store, 0), 1);
    }

    @Says(in = "Promise 4", value = "Lets stamps jump.")
    @Break(from = "return transactions.skip(stamps);", to = "return transactions.nextStamp + stamps;")
    @Break(from = "return transactions.skip(stamps);", to = "transactions.count += stamps; return transactions.skip(stamps);")
    static void letsStampsJump() {
        RowPages store = new RowPages();
        store.begin();
        Check.same("from 1 to 8", store.jump(7), 8);
        Check.same("the next transaction", store.begin(), 1);
        Check.same("has the stamp", store.stamp(1), 8);
        Check.same("the other one keeps its own", store.stamp(0), 0);
    }

    @Says(in = "Promise 6", value = "Tells whether a stamp is before another one.")
    @Break(from = "return one != other && distance(one, other) < HALF_CIRCLE;", to = "return one < other;")
    @Break(from = "return one != other && distance(one, other) < HALF_CIRCLE;",
            to = "return one != other && distance(other, one) < HALF_CIRCLE;")
    static void isBeforeRoundTheCircle() {
        RowPages store = new RowPages();
        Check.same("3 before 5", store.isBefore(3, 5), true);
        Check.same("5 before 3", store.isBefore(5, 3), false);
        Check.same("60 before 2", store.isBefore(60, 2), true);
        Check.same("2 before 60", store.isBefore(2, 60), false);
    }

    @Says(in = "Promise 7", value = "Reads a key.")
    @Break(from = "int place = seenPlace(transaction, key); return isPlace(place)",
            to = "int place = seenPlace(transaction, 0); return isPlace(place)")
    static void readsAKey() {
        RowPages store = new RowPages();
        Steps.put(store, 0, 10);
        Steps.put(store, 1, 11);
        int reader = store.begin();
        Check.same("key 0", store.read(reader, 0), 10);
        Check.same("key 1", store.read(reader, 1), 11);
        Check.same("key 2", store.read(reader, 2), -1);
    }

    @Says(in = "Promise 8", value = "Returns the same")
    @Break(from = "if (table.keys[row] == key &&", to = "if (table.keys[row] == table.keys[0] &&")
    @Break(from = "table.takeOffDeaths(transaction);", to = "table.count = 0;")
    static void plainReturnsTheSame() {
        RowPages store = new RowPages();
        Steps.put(store, 0, 10);
        Steps.put(store, 1, 11);
        int back = store.begin();
        store.delete(back, 0);
        store.write(back, 1, 12);
        store.end(back, false);
        int reader = store.begin();
        for (int key = 0; key < 6; key++) {
            Check.same("key " + key, store.readPlain(reader, key), store.read(reader, key));
        }
    }

    @Says(in = "Promise 11", value = "Cleans a page.")
    @Break(from = "int gone = 0; for (int place = firstOf(page); place < firstOf(page) + SLOTS; place++)",
            to = "int gone = 0; for (int place = 0; place < PLACES; place++)")
    @Break(from = "int gone = 0; for (int place = firstOf(page); place < firstOf(page) + SLOTS; place++)",
            to = "int gone = 0; for (int place = 0; place < SLOTS; place++)")
    @Break(from = "freezeOldOnes(page, settled); mapped[page]", to = "mapped[page]")
    static void cleansOnePage() {
        RowPages store = new RowPages();
        int filler = store.begin();
        Steps.write(store, filler, 0, 10);
        store.write(filler, 1, 1);
        store.end(filler, true);
        store.setFreezing(1);
        Check.same("nine can go, one of them in the second page", store.clean(1), 1);
        Check.same("that is cleaned", store.fullness(1), 0.25f);
        Check.same("and frozen", store.slot(1, 1), 10);
        Check.same("the first page is not", store.fullness(0), 1f);
        Check.same("the first page, too", store.clean(0), 8);
    }

    @Says(in = "Promise 12", value = "Sets the freezing age.")
    @Break(from = "freezingAge = age;", to = "")
    @Break(from = "freezingAge = age;", to = "freezingAge = Math.min(freezingAge, age);")
    static void setsTheFreezingAge() {
        RowPages store = new RowPages();
        Steps.put(store, 0, 1);
        store.jump(4);
        store.setFreezing(5);
        store.setFreezing(6);
        store.clean(0);
        Check.same("at 6, an age of 5", store.slot(0, 0), 0);
        store.setFreezing(5);
        store.clean(0);
        Check.same("at 5, an age of 5", store.slot(0, 0), 10);
    }

    @Says(in = "Promise 13", value = "Tells what the map tells of a page.")
    @Break(from = "return mapped[page];", to = "return isWhole(page);")
    @Break(from = "return mapped[page];", to = "return mapped[0];")
    static void tellsTheMap() {
        RowPages store = new RowPages();
        store.clean(2);
        Check.same("a page that was cleaned", store.isMapped(2), true);
        Check.same("a whole one that was not", store.isMapped(3), false);
        Check.same("nor was the first", store.isMapped(0), false);
    }

    @Says(in = "Promise 14", value = "Tells whether a page is whole.")
    @Break(from = "slots.isUsed(place) && !isSeenByAll(place, settled)", to = "!mapped[page] && !isSeenByAll(place, settled)")
    @Break(from = "slots.isUsed(place) && !isSeenByAll(place, settled)", to = "slots.isUsed(place)")
    @Break(from = "slots.isUsed(place) && !isSeenByAll(place, settled)", to = "slots.hasDeath(place)")
    static void tellsWholePages() {
        RowPages store = new RowPages();
        Check.same("an empty page", store.isWhole(0), true);
        int own = store.begin();
        store.write(own, 0, 1);
        Check.same("with a version of an active one", store.isWhole(0), false);
        Check.same("another page", store.isWhole(1), true);
        store.end(own, true);
        Check.same("behind its commit", store.isWhole(0), true);
        Steps.remove(store, 0);
        Check.same("with a death", store.isWhole(0), false);
    }

    @Says(in = "Promise 15", value = "Returns what lies in a slot:")
    @Break(from = "int place = firstOf(page) + slot;", to = "int place = slot;")
    @Break(from = "int place = firstOf(page) + slot;", to = "int place = firstOf(page);")
    static void whatLiesInASlot() {
        RowPages store = new RowPages();
        keyInTheSecondPage(store);
        Check.same("in the first page", store.slot(0, 1), 300);
        Check.same("in the second page", store.slot(1, 0), 1);
        Check.same("next to it", store.slot(1, 1), -1);
    }

    @Says(in = "Promise 17", value = "Returns how full a page is:")
    @Break(from = "return (float) used / SLOTS;", to = "return used / SLOTS;")
    @Break(from = "return (float) used / SLOTS;", to = "return (float) used / PLACES;")
    @Break(from = "int used = 0; for (int place = firstOf(page);", to = "int used = 0; for (int place = 0;")
    static void howFullAPageIs() {
        RowPages store = new RowPages();
        int filler = store.begin();
        Steps.write(store, filler, 0, 11);
        Check.same("the first page", store.fullness(0), 1f);
        Check.same("the second page", store.fullness(1), 0.375f);
        Check.same("the third page", store.fullness(2), 0f);
    }
}
