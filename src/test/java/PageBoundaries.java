/** Boundary cases of ages, whole pages, the map and what is asked of pages: of the Terms and of promises 13 to 18. */
final class PageBoundaries {
    private PageBoundaries() {
    }

    @Says("The age of a stamp is how many stamps lie from it to the one that a transaction would get that began now")
    @Break(from = "return distance(stamp, nextStamp);", to = "return distance(stamp + 1, nextStamp);")
    @Break(from = "return distance(stamp, nextStamp);", to = "return distance(nextStamp, stamp);")
    static void ageOfTheLatestIs1() {
        RowPages store = new RowPages();
        store.begin();
        Check.same("behind the begin", store.oldest(), 1);
        store.jump(5);
        Check.same("behind a jump", store.oldest(), 6);
        store.begin();
        Check.same("behind another begin", store.oldest(), 7);
    }

    @Says("that less it, modulo 64")
    @Break(from = "return distance(stamp, nextStamp);", to = "return Math.abs(nextStamp - stamp);")
    @Break(from = "return distance(stamp, nextStamp);", to = "return Math.max(nextStamp - stamp, 0);")
    static void ageRoundTheCircle() {
        RowPages store = new RowPages();
        Steps.jump(store, 20, 20, 20, 3);
        Steps.put(store, 0, 1);
        Check.same("of 63 to 0", store.oldest(), 1);
        Steps.jump(store, 18);
        store.clean(0);
        Check.same("of 63 to 18: not frozen", store.slot(0, 0), 0);
        store.jump(1);
        Check.same("of 63 to 19", store.oldest(), 20);
        store.clean(0);
        Check.same("frozen", store.slot(0, 0), 10);
    }

    @Says("The oldest age is the greatest one of all births that are not frozen")
    @Break(from = "if (slots.isUsed(place) && !slots.frozen[place]) { greatest", to = "if (slots.isUsed(place)) { greatest")
    @Break(from = "greatest = Math.max(greatest, transactions.ageOf(slots.birthStamps[place]));",
            to = "greatest = transactions.ageOf(slots.birthStamps[place]);")
    @Break(from = "for (int place = 0; place < PLACES; place++) { if (slots.isUsed(place) && !slots.frozen[place])",
            to = "for (int place = 1; place < PLACES; place++) { if (slots.isUsed(place) && !slots.frozen[place])")
    @Break(from = "for (int place = 0; place < PLACES; place++) { if (slots.isUsed(place) && !slots.frozen[place])",
            to = "for (int place = 0; place < PLACES - 1; place++) { if (slots.isUsed(place) && !slots.frozen[place])")
    static void oldestOfBirths() {
        RowPages store = new RowPages();
        Steps.put(store, 0, 1);
        store.jump(4);
        Steps.put(store, 1, 1);
        Check.same("the older one, in the first slot", store.oldest(), 6);
        store.setFreezing(6);
        store.clean(0);
        Check.same("it is frozen, the other one not", store.oldest(), 1);
        RowPages full = new RowPages();
        int writer = full.begin();
        Steps.write(full, writer, 0, 31);
        full.write(writer, 1, 1);
        full.end(writer, true);
        for (int page = 0; page < 4; page++) {
            full.clean(page);
        }
        Steps.remove(full, 0);
        full.clean(3);
        Check.same("only the last slot is used", full.slot(3, 7), 1);
        Check.same("its age", full.oldest(), 2);
    }

    @Says("(of versions that are dead, too, as long as they lie in a slot)")
    @Break(from = "if (slots.isUsed(place) && !slots.frozen[place]) { greatest",
            to = "if (slots.isUsed(place) && !slots.frozen[place] && !transactions.isTakenBack(slots.births[place])) { greatest")
    @Break(from = "if (slots.isUsed(place) && !slots.frozen[place]) { greatest",
            to = "if (transactions.count > 0 && !slots.frozen[place]) { greatest")
    static void oldestOfDeadVersions() {
        RowPages store = new RowPages();
        Steps.putAndTakeBack(store, 0, 1);
        Check.same("a dead one", store.oldest(), 1);
        Steps.jump(store, 20, 7);
        Check.badState("it stops begin", store::begin);
        Check.same("it goes", store.clean(0), 1);
        Check.same("it has no age then", store.oldest(), 0);
        Check.same("begin is free", store.begin(), 1);
    }

    @Says("all deaths, and all stamps of active transactions")
    @Break(from = "if (slots.hasDeath(place)) { greatest", to = "if (slots.hasDeath(place) && !slots.frozen[place]) { greatest")
    @Break(from = "greatest = Math.max(greatest, transactions.ageOf(slots.deathStamps[place]));", to = "")
    @Break(from = "slots.deathStamps[place] = transactions.stamps[transaction];", to = "slots.deathStamps[place] = slots.birthStamps[place];")
    static void oldestOfDeaths() {
        RowPages store = new RowPages();
        store.setFreezing(1);
        Steps.put(store, 0, 1);
        store.clean(0);
        store.jump(9);
        Check.same("all is frozen", store.oldest(), 0);
        Steps.remove(store, 0);
        store.jump(2);
        Check.same("the death of a frozen one", store.oldest(), 3);
        store.clean(0);
        int own = store.begin();
        store.write(own, 0, 1);
        store.end(own, true);
        store.clean(0);
        int back = store.begin();
        store.delete(back, 0);
        Check.same("a death of an active one", store.oldest(), 1);
        store.end(back, false);
        Check.same("taken off, it has no age", store.oldest(), 0);
    }

    @Says("all stamps of active transactions")
    @Break(from = "int greatest = transactions.oldestActiveAge();", to = "int greatest = 0;")
    @Break(from = "if (isActive(transaction)) { greatest = Math.max(greatest, ageOf(stamps[transaction])); }",
            to = "if (isActive(transaction)) { greatest = ageOf(stamps[transaction]); }")
    @Break(from = "if (isActive(transaction)) { greatest =", to = "if (wasBegun(transaction)) { greatest =")
    static void oldestOfActiveOnes() {
        RowPages store = new RowPages();
        store.begin();
        store.begin();
        store.begin();
        Check.same("the first one", store.oldest(), 3);
        store.end(0, true);
        Check.same("one that committed has none", store.oldest(), 2);
        store.end(1, false);
        Check.same("one that was taken back has none", store.oldest(), 1);
    }

    @Says("0, if there is none of these")
    @Break(from = "int greatest = transactions.oldestActiveAge();", to = "int greatest = Math.max(1, transactions.oldestActiveAge());")
    @Break(from = "int greatest = transactions.oldestActiveAge();",
            to = "int greatest = Math.max(transactions.ageOf(0), transactions.oldestActiveAge());")
    static void oldestOfNothing() {
        RowPages store = new RowPages();
        Check.same("a new object", store.oldest(), 0);
        store.jump(20);
        Check.same("behind a jump", store.oldest(), 0);
        int own = store.begin();
        store.end(own, true);
        Check.same("behind a transaction that wrote nothing", store.oldest(), 0);
    }

    @Says("A page is whole, if all its versions have no death")
    @Break(from = "return !slots.hasDeath(place) && (slots.frozen", to = "return (slots.frozen")
    @Break(from = "return !slots.hasDeath(place) && (slots.frozen",
            to = "return !Transactions.has(transactions.committed, slots.deaths[place]) && (slots.frozen")
    static void notWholeWithADeath() {
        RowPages store = new RowPages();
        Steps.put(store, 0, 1);
        int own = store.begin();
        store.delete(own, 0);
        Check.same("a death of an active one", store.isWhole(0), false);
        store.end(own, true);
        Check.same("of one that committed", store.isWhole(0), false);
        store.clean(0);
        Check.same("an empty page", store.isWhole(0), true);
    }

    @Says("if all its versions have")
    @Break(from = "place < firstOf(page) + SLOTS; place++) { if (slots.isUsed(place) && !isSeenByAll",
            to = "place < firstOf(page) + SLOTS - 1; place++) { if (slots.isUsed(place) && !isSeenByAll")
    @Break(from = "int place = firstOf(page); place < firstOf(page) + SLOTS; place++) { if (slots.isUsed(place) && !isSeenByAll",
            to = "int place = firstOf(page) + 1; place < firstOf(page) + SLOTS; place++) { if (slots.isUsed(place) && !isSeenByAll")
    @Break(from = "if (slots.isUsed(place) && !isSeenByAll(place, settled))", to = "if (!isSeenByAll(place, settled))")
    static void wholeMindsEachSlot() {
        RowPages store = new RowPages();
        Check.same("an empty page", store.isWhole(0), true);
        int own = store.begin();
        store.write(own, 0, 1);
        Check.same("the first slot alone", store.isWhole(0), false);
        store.end(own, true);
        Check.same("one version and seven free slots", store.isWhole(0), true);
        Steps.put(store, 1, 1);
        Steps.put(store, 2, 1);
        int back = store.begin();
        Steps.write(store, back, 3, 4);
        store.end(back, false);
        int last = store.begin();
        store.write(last, 4, 1);
        store.clean(0);
        Check.same("the last slot alone", store.slot(0, 7), 4);
        Check.same("is of an active one", store.isWhole(0), false);
        store.end(last, true);
        Check.same("that has committed", store.isWhole(0), true);
    }

    @Says("and a birth that is frozen, or of a transaction that has committed, and had, by the snapshot of each active one.")
    @Break(from = "(slots.frozen[place] || Transactions.has(settled, slots.births[place]));",
            to = "(slots.frozen[place] || Transactions.has(transactions.committed, slots.births[place]));")
    @Break(from = "(slots.frozen[place] || Transactions.has(settled, slots.births[place]));",
            to = "(slots.frozen[place] || !transactions.isTakenBack(slots.births[place]));")
    @Break(from = "(slots.frozen[place] || Transactions.has(settled, slots.births[place]));",
            to = "(slots.frozen[place] || !transactions.isActive(slots.births[place]));")
    @Break(from = "(slots.frozen[place] || Transactions.has(settled, slots.births[place]));",
            to = "(!slots.frozen[place] && Transactions.has(settled, slots.births[place]));")
    @Break(from = "(slots.frozen[place] || Transactions.has(settled, slots.births[place]));", to = "slots.frozen[place];")
    static void wholeMindsBirths() {
        RowPages store = new RowPages();
        store.setFreezing(1);
        int early = store.begin();
        int writer = store.begin();
        store.write(writer, 0, 1);
        Check.same("of an active one", store.isWhole(0), false);
        store.end(writer, true);
        Check.same("committed behind a snapshot", store.isWhole(0), false);
        int late = store.begin();
        store.end(early, true);
        Check.same("committed for each", store.isWhole(0), true);
        store.clean(0);
        Check.same("it is frozen", store.slot(0, 0), 10);
        Check.same("frozen", store.isWhole(0), true);
        store.write(late, 1, 1);
        store.end(late, false);
        Check.same("a dead one", store.isWhole(0), false);
    }

    @Says("The map tells of a page that it is whole, if it was so when it was cleaned last")
    @Break(from = "mapped[page] = isWhole(page);", to = "mapped[page] = true;")
    @Break(from = "mapped[page] = isWhole(page);", to = "")
    @Break(from = "mapped[page] = isWhole(page); return gone;", to = "mapped[page] = gone == 0 && isWhole(page); return gone;")
    @Break(from = "return mapped[page];", to = "return mapped[0];")
    static void mapOfTheLastCleaning() {
        RowPages store = new RowPages();
        Steps.put(store, 0, 1);
        int reader = store.begin();
        Steps.put(store, 0, 2);
        store.clean(0);
        Check.same("not whole when cleaned", store.isMapped(0), false);
        store.end(reader, true);
        Check.same("nor later", store.isMapped(0), false);
        Check.same("one goes", store.clean(0), 1);
        Check.same("whole behind the cleaning", store.isMapped(0), true);
        Check.same("of this page alone", store.isMapped(1), false);
        store.clean(3);
        Check.same("an empty page is whole", store.isMapped(3), true);
    }

    @Says("and nothing was written to it since")
    @Break(from = "table.putDeath(slots.rows[place], transaction); mapped[pageOf(place)] = false;",
            to = "table.putDeath(slots.rows[place], transaction);")
    @Break(from = "table.add(key, value, transaction); mapped[pageOf(place)] = false;", to = "table.add(key, value, transaction);")
    @Break(from = "if (!isPlace(place)) { return false; } checkNotRefused(transaction, key); putDeath",
            to = "mapped[0] = false; if (!isPlace(place)) { return false; } checkNotRefused(transaction, key); putDeath")
    static void mapUntilItIsWritten() {
        RowPages store = new RowPages();
        Steps.put(store, 0, 1);
        store.clean(0);
        int own = store.begin();
        Check.same("nothing deleted", store.delete(own, 1), false);
        Check.same("so nothing written", store.isMapped(0), true);
        store.delete(own, 0);
        Check.same("a death is written", store.isMapped(0), false);
        store.end(own, false);
        Check.same("though it is taken back, and the page whole", store.isWhole(0), true);
        Check.same("the map does not tell it", store.isMapped(0), false);
        store.clean(0);
        Check.same("until it is cleaned", store.isMapped(0), true);
        Steps.put(store, 1, 1);
        Check.same("a version is written", store.isMapped(0), false);
    }

    @Says("nothing was written to it")
    @Break(from = "table.putDeath(slots.rows[place], transaction); mapped[pageOf(place)] = false;",
            to = "table.putDeath(slots.rows[place], transaction);")
    @Break(from = "table.add(key, value, transaction); mapped[pageOf(place)] = false;",
            to = "table.add(key, value, transaction); mapped[0] = false;")
    @Break(from = "table.add(key, value, transaction); mapped[pageOf(place)] = false;",
            to = "table.add(key, value, transaction); for (int page = 0; page < PAGES; page++) { mapped[page] = false; }")
    static void changeToAnotherPageWritesBoth() {
        RowPages store = new RowPages();
        for (int key = 0; key < 6; key++) {
            Steps.put(store, key, 1);
        }
        int filler = store.begin();
        store.write(filler, 1, 2);
        store.write(filler, 2, 2);
        store.end(filler, true);
        int reader = store.begin();
        for (int page = 0; page < 4; page++) {
            store.clean(page);
        }
        Check.same("the old page is whole", store.isMapped(0), true);
        store.write(reader, 1, 3);
        store.write(reader, 1, 4);
        store.end(reader, false);
        int late = store.begin();
        store.clean(1);
        store.clean(2);
        Check.same("page 0 is full", store.fullness(0), 1f);
        Check.same("to page 1", store.write(late, 0, 5), 1000);
        Check.same("it was written to", store.isMapped(1), false);
        Check.same("page 2 was not", store.isMapped(2), true);
        store.end(late, true);
        store.clean(0);
        store.clean(1);
        Check.same("page 0 is whole again", store.isMapped(0), true);
        Steps.remove(store, 0);
        Check.same("a death in page 1", store.isMapped(1), false);
        Check.same("writes nothing to page 0", store.isMapped(0), true);
    }

    @Says("of a page that was never cleaned it does not")
    @Break(from = "return mapped[page];", to = "return isWhole(page);")
    @Break(from = "mapped = new boolean[PAGES]; freezingAge",
            to = "mapped = new boolean[PAGES]; mapped[3] = true; freezingAge")
    static void mapOfPagesNeverCleaned() {
        RowPages store = new RowPages();
        Steps.put(store, 0, 1);
        for (int page = 0; page < 4; page++) {
            Check.same("whole", store.isWhole(page), true);
            Check.same("but not in the map", store.isMapped(page), false);
        }
    }

    @Says(in = "Promise 13", value = "- `page`: 0 to 3")
    @Break(from = "if (page < 0 || page >= PAGES)", to = "if (page <= 0 || page >= PAGES)")
    @Break(from = "if (page < 0 || page >= PAGES)", to = "if (page < 0 || page >= PAGES - 1)")
    static void mapOfTheFirstAndTheLastPage() {
        RowPages store = new RowPages();
        store.clean(0);
        Check.same("page 0", store.isMapped(0), true);
        Check.same("page 3", store.isMapped(3), false);
        store.clean(3);
        Check.same("page 3, cleaned", store.isMapped(3), true);
    }

    @Says(in = "Promise 13", value = "Throws `IllegalArgumentException` if page is out of range")
    @Break(from = "checkPage(page); return mapped[page];", to = "return mapped[Math.floorMod(page, PAGES)];")
    @Break(from = "if (page < 0 || page >= PAGES)", to = "if (page < 0 || page > PAGES)")
    static void mapOfABadPage() {
        RowPages store = new RowPages();
        Check.badArguments("isMapped", 0, 3, store::isMapped);
    }

    @Says(in = "Promise 14", value = "- `page`: 0 to 3")
    @Break(from = "if (page < 0 || page >= PAGES)", to = "if (page <= 0 || page >= PAGES)")
    @Break(from = "private static int firstOf(int page) { return page * SLOTS; }",
            to = "private static int firstOf(int page) { return page % 3 * SLOTS; }")
    static void wholeOfTheFirstAndTheLastPage() {
        RowPages store = new RowPages();
        int own = store.begin();
        Steps.write(store, own, 0, 8);
        Check.same("page 0", store.isWhole(0), false);
        Check.same("page 3", store.isWhole(3), true);
        Steps.write(store, own, 0, 24);
        Check.same("page 3, written to", store.isWhole(3), false);
    }

    @Says(in = "Promise 14", value = "Throws `IllegalArgumentException` if page is out of range")
    @Break(from = "checkPage(page); long settled = transactions.settled(); for",
            to = "if (page < 0 || page >= PAGES) { return true; } long settled = transactions.settled(); for")
    @Break(from = "if (page < 0 || page >= PAGES)", to = "if (page < -1 || page >= PAGES)")
    static void wholeOfABadPage() {
        RowPages store = new RowPages();
        Check.badArguments("isWhole", 0, 3, store::isWhole);
    }

    @Says(in = "Promise 15", value = "-1 nothing, otherwise the key")
    @Break(from = "if (!slots.isUsed(place)) { return NONE; } int answer", to = "if (!slots.isUsed(place)) { return 0; } int answer")
    @Break(from = "int answer = slots.keys[place];", to = "int answer = slots.keys[place] == 0 ? NONE : slots.keys[place];")
    static void slotOfNothingAndOfKey0() {
        RowPages store = new RowPages();
        Check.same("nothing", store.slot(0, 0), -1);
        int own = store.begin();
        for (int key = 0; key < 6; key++) {
            store.write(own, key, 9);
            Check.same("the key", store.slot(0, key), key);
        }
        store.end(own, false);
        store.clean(0);
        Check.same("nothing again", store.slot(0, 5), -1);
    }

    @Says(in = "Promise 15", value = "plus 10 if the birth is frozen, plus 20 if it has a death")
    @Break(from = "answer += 10;", to = "answer += 20;")
    @Break(from = "answer += 20;", to = "answer += 10;")
    @Break(from = "if (slots.frozen[place]) { answer += 10; }", to = "if (slots.frozen[place]) { return answer + 10; }")
    static void slotFrozenWithADeath() {
        RowPages store = new RowPages();
        store.setFreezing(1);
        Steps.put(store, 5, 1);
        store.clean(0);
        Check.same("frozen", store.slot(0, 0), 15);
        int own = store.begin();
        store.delete(own, 5);
        Check.same("and with a death", store.slot(0, 0), 35);
        store.write(own, 5, 1);
        store.delete(own, 5);
        Check.same("with a death alone", store.slot(0, 1), 25);
    }

    @Says(in = "Promise 15", value = "plus 100 times 1 more than the slot of its next version, if it has one.")
    @Break(from = "answer += 100 * (1 + slotOf(slots.nexts[place]));", to = "answer += 100 * slotOf(slots.nexts[place]);")
    @Break(from = "answer += 100 * (1 + slotOf(slots.nexts[place]));", to = "answer += 100 * (1 + slots.nexts[place]);")
    @Break(from = "if (isPlace(slots.nexts[place])) { answer", to = "if (slots.nexts[place] > 0) { answer")
    static void slotWithNext0And7() {
        RowPages store = new RowPages();
        Steps.putAndTakeBack(store, 5, 1);
        Steps.put(store, 0, 1);
        store.clean(0);
        Steps.put(store, 0, 2);
        Check.same("the next one is in slot 0", store.slot(0, 1), 120);
        Check.same("that has none", store.slot(0, 0), 0);
        int own = store.begin();
        Steps.write(store, own, 1, 14);
        Check.same("in page 1 it is in slot 7", store.slot(1, 6), 821);
        Check.same("that has none", store.slot(1, 7), 1);
    }

    @Says(in = "Promise 15", value = "- `page`: 0 to 3")
    @Break(from = "if (page < 0 || page >= PAGES)", to = "if (page <= 0 || page >= PAGES)")
    @Break(from = "if (page < 0 || page >= PAGES)", to = "if (page < 0 || page >= PAGES - 1)")
    @Break(from = "int place = firstOf(page) + slot;", to = "int place = slot;")
    static void slotOfTheFirstAndTheLastPage() {
        RowPages store = new RowPages();
        int own = store.begin();
        Steps.write(store, own, 0, 24);
        Check.same("page 3", store.slot(3, 0), -1);
        store.write(own, 5, 1);
        Check.same("page 3, used", store.slot(3, 0), 5);
        Check.same("page 0", store.slot(0, 0), 220);
    }

    @Says(in = "Promise 15", value = "- `slot`: 0 to 7")
    @Break(from = "if (slot < 0 || slot >= SLOTS)", to = "if (slot <= 0 || slot >= SLOTS)")
    @Break(from = "if (slot < 0 || slot >= SLOTS)", to = "if (slot < 0 || slot >= SLOTS - 1)")
    static void firstAndLastSlot() {
        RowPages store = new RowPages();
        int own = store.begin();
        Steps.write(store, own, 0, 31);
        Check.same("slot 0 of page 0", store.slot(0, 0), 220);
        Check.same("slot 7 of page 3", store.slot(3, 7), -1);
        store.write(own, 1, 1);
        Check.same("slot 7 of page 3, used", store.slot(3, 7), 1);
    }

    @Says(in = "Promise 15", value = "Throws `IllegalArgumentException` if page or slot is out of range")
    @Break(from = "checkPage(page); checkSlot(slot);", to = "checkPage(page); slot = Math.floorMod(slot, SLOTS);")
    @Break(from = "checkPage(page); checkSlot(slot);", to = "checkSlot(slot); page = Math.floorMod(page, PAGES);")
    @Break(from = "if (slot < 0 || slot >= SLOTS)", to = "if (slot < 0 || slot > SLOTS)")
    @Break(from = "if (slot < 0 || slot >= SLOTS)", to = "if (slot < -1 || slot >= SLOTS)")
    static void slotOfABadPageOrSlot() {
        RowPages store = new RowPages();
        Check.badArguments("slot with page", 0, 3, page -> store.slot(page, 0));
        Check.badArguments("slot with slot", 0, 7, slot -> store.slot(0, slot));
        Check.badArguments("slot with slot of page 1", 0, 7, slot -> store.slot(1, slot));
        Check.badArguments("slot with both", 0, 7, number -> store.slot(number, number));
    }

    @Says(in = "Promise 16", value = "Returns how many entries the index has for a key.")
    @Break(from = "if (counts[key] < PLACES) {", to = "if (counts[key] < PLACES - 1) {")
    @Break(from = "return index.counts[key];", to = "return Math.min(1, index.counts[key]);")
    static void entriesFrom0To32() {
        RowPages store = new RowPages();
        Check.same("none", store.entries(0), 0);
        int own = store.begin();
        for (int time = 1; time <= 32; time++) {
            store.write(own, 0, time);
            Check.same("one for each insertion", store.entries(0), time);
            store.delete(own, 0);
        }
        Check.same("none of another key", store.entries(1), 0);
        store.end(own, true);
        store.clean(3);
        Check.same("eight are gone", store.entries(0), 24);
    }

    @Says(in = "Promise 16", value = "- `key`: 0 to 5")
    @Break(from = "if (key < 0 || key >= KEYS)", to = "if (key <= 0 || key >= KEYS)")
    @Break(from = "if (key < 0 || key >= KEYS)", to = "if (key < 0 || key >= KEYS - 1)")
    static void entriesOfTheFirstAndTheLastKey() {
        RowPages store = new RowPages();
        Steps.put(store, 0, 1);
        Check.same("key 0", store.entries(0), 1);
        Check.same("key 5", store.entries(5), 0);
    }

    @Says(in = "Promise 16", value = "Throws `IllegalArgumentException` if key is out of range")
    @Break(from = "checkKey(key); return index.counts[key];", to = "return key < 0 || key >= KEYS ? 0 : index.counts[key];")
    @Break(from = "if (key < 0 || key >= KEYS)", to = "if (key < 0 || key > KEYS)")
    @Break(from = "if (key < 0 || key >= KEYS)", to = "if (key < -1 || key >= KEYS)")
    static void entriesOfABadKey() {
        RowPages store = new RowPages();
        Check.badArguments("entries", 0, 5, store::entries);
    }

    @Says(in = "Promise 17", value = "how many of its slots have versions, as a float, divided by 8.")
    @Break(from = "return (float) used / SLOTS;", to = "return (float) (used / SLOTS);")
    @Break(from = "return (float) used / SLOTS;", to = "return (float) used / (SLOTS - 1);")
    @Break(from = "place < firstOf(page) + SLOTS; place++) { if (slots.isUsed(place)) { used++;",
            to = "place < firstOf(page) + SLOTS - 1; place++) { if (slots.isUsed(place)) { used++;")
    @Break(from = "int place = firstOf(page); place < firstOf(page) + SLOTS; place++) { if (slots.isUsed(place)) { used++;",
            to = "int place = firstOf(page) + 1; place < firstOf(page) + SLOTS; place++) { if (slots.isUsed(place)) { used++;")
    static void fullnessFrom0To1() {
        RowPages store = new RowPages();
        Check.same("empty", store.fullness(0), 0f);
        int own = store.begin();
        store.write(own, 0, 1);
        Check.same("one eighth", store.fullness(0), 0.125f);
        Steps.write(store, own, 0, 6);
        Check.same("seven eighths", store.fullness(0), 0.875f);
        store.write(own, 0, 1);
        Check.same("full", store.fullness(0), 1f);
        Check.same("the other page is empty", store.fullness(1), 0f);
        store.end(own, false);
        Check.same("dead ones are versions", store.fullness(0), 1f);
    }

    @Says(in = "Promise 17", value = "- `page`: 0 to 3")
    @Break(from = "if (page < 0 || page >= PAGES)", to = "if (page <= 0 || page >= PAGES)")
    @Break(from = "if (page < 0 || page >= PAGES)", to = "if (page < 0 || page >= PAGES - 1)")
    static void fullnessOfTheFirstAndTheLastPage() {
        RowPages store = new RowPages();
        int own = store.begin();
        Steps.write(store, own, 0, 25);
        Check.same("page 0", store.fullness(0), 1f);
        Check.same("page 3", store.fullness(3), 0.125f);
    }

    @Says(in = "Promise 17", value = "Throws `IllegalArgumentException` if page is out of range")
    @Break(from = "checkPage(page); int used = 0;", to = "if (page < 0 || page >= PAGES) { return 0f; } int used = 0;")
    @Break(from = "if (page < 0 || page >= PAGES)", to = "if (page < 0 || page > PAGES)")
    static void fullnessOfABadPage() {
        RowPages store = new RowPages();
        Check.badArguments("fullness", 0, 3, store::fullness);
    }

    @Says(in = "Promise 18", value = "Returns the oldest age.")
    @Break(from = "AGE_THAT_STOPS_BEGIN = 28;", to = "AGE_THAT_STOPS_BEGIN = 32;")
    @Break(from = "return distance(stamp, nextStamp);", to = "return Math.min(distance(stamp, nextStamp), 30);")
    static void oldestIs31AtMost() {
        RowPages store = new RowPages();
        store.begin();
        Steps.jump(store, 20, 10);
        Check.same("the greatest", store.oldest(), 31);
        Check.badState("no jump makes it greater", () -> store.jump(1));
        Check.badState("nor does begin", store::begin);
        Check.same("so it stays", store.oldest(), 31);
    }
}
