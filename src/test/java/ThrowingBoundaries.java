/** Boundary cases of calls that throw: the last sentence of the Terms, for each call that it can be seen of. */
final class ThrowingBoundaries {
    private static final int[] FAR_NUMBERS = {-1, 60, 64, Integer.MIN_VALUE, Integer.MAX_VALUE};

    private ThrowingBoundaries() {
    }

    @Says("When a call throws, nothing has changed")
    @Break(from = "throw new IllegalStateException(\"there were 60 transactions\");",
            to = "transactions.skip(1); throw new IllegalStateException(\"\");")
    static void refusedBeginAt60() {
        RowPages store = new RowPages();
        for (int number = 0; number < 60; number++) {
            store.begin();
            store.end(number, true);
        }
        Check.badState("the 61st", store::begin);
        Check.noTransaction("it is none", () -> store.stamp(60));
        Check.same("it took no stamp", store.jump(1), 61);
    }

    @Says("When a call throws, nothing has changed")
    @Break(from = "throw new IllegalStateException(\"the oldest age is 28 or more\");",
            to = "transactions.start(); throw new IllegalStateException(\"\");")
    @Break(from = "throw new IllegalStateException(\"the oldest age is 28 or more\");",
            to = "transactions.skip(1); throw new IllegalStateException(\"\");")
    static void refusedBeginAt28() {
        RowPages store = new RowPages();
        store.begin();
        Steps.jump(store, 20, 7);
        Check.badState("begin", store::begin);
        Check.same("it took no stamp", store.oldest(), 28);
        Check.same("it began none", store.end(0, true), 0);
        Check.same("the next number", store.begin(), 1);
        Check.same("the next stamp", store.stamp(1), 28);
    }

    @Says("When a call throws, nothing has changed")
    @Break(from = "checkActive(transaction); transactions.finish",
            to = "if (!transactions.isActive(transaction)) { transactions.finish(transaction, commits); }"
                    + " checkActive(transaction); transactions.finish")
    @Break(from = "checkActive(transaction); transactions.finish",
            to = "if (!commits) { slots.takeOffDeaths(transaction); } checkActive(transaction); transactions.finish")
    static void refusedEnd() {
        RowPages store = new RowPages();
        Steps.put(store, 0, 1);
        Steps.putAndTakeBack(store, 1, 1);
        Steps.remove(store, 0);
        String before = Steps.picture(store);
        Check.badState("commit what was taken back", () -> store.end(1, true));
        Check.badState("take back a deletion that has committed", () -> store.end(2, false));
        Check.same("all is as it was", Steps.picture(store), before);
        int reader = store.begin();
        Steps.reads("what was deleted", store, reader, 0, -1);
        Steps.reads("what was taken back", store, reader, 1, -1);
    }

    @Says("When a call throws, nothing has changed")
    @Break(from = "throw new IllegalArgumentException(\"stamps is not 1 to 20\");",
            to = "transactions.skip(1); throw new IllegalArgumentException(\"\");")
    @Break(from = "throw new IllegalStateException(\"the oldest age would be 32 or more\");",
            to = "transactions.skip(1); throw new IllegalStateException(\"\");")
    static void refusedJump() {
        RowPages store = new RowPages();
        Check.badArguments("jump", 1, 20, store::jump);
        store.begin();
        Check.same("no stamp was jumped over", store.stamp(0), 0);
        store.jump(12);
        Check.badState("jump", () -> store.jump(20));
        Check.same("nor then", store.oldest(), 13);
    }

    @Says("When a call throws, nothing has changed")
    @Break(from = "checkKey(key); checkValue(value); checkActive(transaction);",
            to = "mapped[0] = false; checkKey(key); checkValue(value); checkActive(transaction);")
    @Break(from = "checkKey(key); checkValue(value); checkActive(transaction);",
            to = "checkKey(key); mapped[0] = false; checkValue(value); checkActive(transaction);")
    @Break(from = "checkKey(key); checkValue(value); checkActive(transaction);",
            to = "checkKey(key); checkValue(value); mapped[0] = false; checkActive(transaction);")
    static void badWrite() {
        RowPages store = new RowPages();
        Steps.put(store, 0, 1);
        store.clean(0);
        int own = store.begin();
        String before = Steps.picture(store);
        Check.badArguments("key", 0, 5, key -> store.write(own, key, 1));
        Check.same("a bad key", Steps.picture(store), before);
        Check.badArguments("value", 0, 9999, value -> store.write(own, 0, value));
        Check.same("a bad value", Steps.picture(store), before);
        Check.badState("ended", () -> store.write(0, 0, 2));
        Check.same("a transaction that has ended", Steps.picture(store), before);
        Steps.reads("the old value", store, own, 0, 1);
    }

    @Says("When a call throws, nothing has changed")
    @Break(from = "checkNotRefused(transaction, key); int old = seenPlace(transaction, key);",
            to = "int old = seenPlace(transaction, key); if (isPlace(old)) { putDeath(transaction, old); }"
                    + " checkNotRefused(transaction, key);")
    @Break(from = "checkNotRefused(transaction, key); int old = seenPlace(transaction, key);",
            to = "mapped[0] = false; checkNotRefused(transaction, key); int old = seenPlace(transaction, key);")
    static void refusedWrite() {
        RowPages store = new RowPages();
        Steps.put(store, 0, 1);
        int early = store.begin();
        Steps.put(store, 0, 2);
        Steps.reads("the old one", store, early, 0, 1);
        store.clean(0);
        String before = Steps.picture(store);
        Check.badState("refused", () -> store.write(early, 0, 3));
        Check.same("nothing is written", Steps.picture(store), before);
        Steps.reads("the old one still", store, early, 0, 1);
        store.end(early, true);
        Steps.reads("the new one", store, store.begin(), 0, 2);
        RowPages mapped = new RowPages();
        int writer = mapped.begin();
        Steps.write(mapped, writer, 0, 8);
        mapped.end(writer, true);
        int late = mapped.begin();
        Check.same("to page 1", Steps.put(mapped, 1, 1), 1000);
        mapped.clean(0);
        Check.badState("refused", () -> mapped.write(late, 1, 2));
        Check.same("the page that it would go to is mapped still", mapped.isMapped(0), true);
    }

    @Says("When a call throws, nothing has changed")
    @Break(from = "int place = placeForNew(old); if (!isPlace(place)) {",
            to = "int place = placeForNew(old); if (isPlace(old)) { putDeath(transaction, old); } if (!isPlace(place)) {")
    @Break(from = "throw new IllegalStateException(\"no slot is free\");",
            to = "table.add(key, value, transaction); throw new IllegalStateException(\"\");")
    @Break(from = "throw new IllegalStateException(\"no slot is free\");",
            to = "index.add(key, 0); throw new IllegalStateException(\"\");")
    static void writeWithoutRoom() {
        RowPages store = new RowPages();
        int own = store.begin();
        Steps.write(store, own, 0, 32);
        String before = Steps.picture(store);
        Check.badState("no slot to change", () -> store.write(own, 0, 77));
        Check.badState("no slot to insert", () -> store.write(own, 1, 78));
        Check.same("nothing is written", Steps.picture(store), before);
        Steps.reads("the last value", store, own, 0, 31);
        Steps.reads("none of the other key", store, own, 1, -1);
    }

    @Says("When a call throws, nothing has changed")
    @Break(from = "return false; } checkNotRefused(transaction, key); putDeath(transaction, place);",
            to = "return false; } putDeath(transaction, place); checkNotRefused(transaction, key);")
    static void refusedDelete() {
        RowPages store = new RowPages();
        Steps.put(store, 0, 1);
        int one = store.begin();
        int other = store.begin();
        store.delete(one, 0);
        Check.badState("refused", () -> store.delete(other, 0));
        Steps.reads("it sees it still", store, other, 0, 1);
        store.end(one, false);
        Check.same("no death is left", store.slot(0, 0), 0);
    }

    @Says("When a call throws, nothing has changed")
    @Break(from = "checkPage(page); long settled = transactions.settled(); int gone",
            to = "if (page >= PAGES) { clean(PAGES - 1); } checkPage(page); long settled = transactions.settled(); int gone")
    @Break(from = "if (age < 1 ||", to = "if (age < 1) { freezingAge = 1; } if (age < 1 ||")
    @Break(from = "if (age < 1 ||", to = "if (age > 27) { freezingAge = 27; } if (age < 1 ||")
    static void badCleanAndSetFreezing() {
        RowPages store = new RowPages();
        int back = store.begin();
        Steps.write(store, back, 0, 32);
        store.end(back, false);
        String before = Steps.picture(store);
        Check.badArguments("clean", 0, 3, store::clean);
        Check.same("nothing is cleaned, nothing mapped", Steps.picture(store), before);
        store.setFreezing(9);
        Check.badArguments("setFreezing", 1, 27, store::setFreezing);
        Check.same("the age stands", store.setFreezing(9), 9);
    }

    @Says("When a call throws, nothing has changed")
    @Break(from = "checkPage(page); checkSlot(slot);", to = "checkPage(page); mapped[page] = false; checkSlot(slot);")
    @Break(from = "checkActive(transaction); int place = seenPlace(transaction, key); return isPlace(place)",
            to = "mapped[0] = false; checkActive(transaction); int place = seenPlace(transaction, key); return isPlace(place)")
    @Break(from = "checkActive(transaction); for (int row", to = "mapped[0] = false; checkActive(transaction); for (int row")
    @Break(from = "checkStamp(one); checkStamp(other);", to = "mapped[0] = false; checkStamp(one); checkStamp(other);")
    static void badQuestions() {
        RowPages store = new RowPages();
        Steps.put(store, 0, 1);
        store.clean(0);
        Check.same("mapped", store.isMapped(0), true);
        for (int number : FAR_NUMBERS) {
            Check.noTransaction("stamp", () -> store.stamp(number));
            Check.noTransaction("read", () -> store.read(number, 0));
            Check.noTransaction("readPlain", () -> store.readPlain(number, 0));
            Check.badArgument("read", () -> store.read(0, number));
            Check.badArgument("readPlain", () -> store.readPlain(0, number));
            Check.badArgument("isMapped", () -> store.isMapped(number));
            Check.badArgument("isWhole", () -> store.isWhole(number));
            Check.badArgument("slot", () -> store.slot(0, number));
            Check.badArgument("entries", () -> store.entries(number));
            Check.badArgument("fullness", () -> store.fullness(number));
        }
        Check.badArguments("isBefore", 0, 63, stamp -> store.isBefore(0, stamp));
        Check.badState("read by one that ended", () -> store.read(0, 0));
        Check.badState("readPlain by one that ended", () -> store.readPlain(0, 0));
        Check.same("mapped still", store.isMapped(0), true);
        Check.same("whole still", store.isWhole(0), true);
        Check.same("the version", store.slot(0, 0), 0);
        Check.same("the next number", store.begin(), 1);
        Check.same("the next stamp", store.stamp(1), 1);
        Steps.reads("the value", store, 1, 0, 1);
    }

    @Says("of several exceptions it is the first one of the throws clause")
    @Break(from = "if (stamps < 1 || stamps > LONGEST_JUMP) {",
            to = "if (oldest() > 0 && oldest() + stamps >= HALF_CIRCLE) { throw new IllegalStateException(\"\"); }"
                    + " if (stamps < 1 || stamps > LONGEST_JUMP) {")
    static void firstOfJump() {
        RowPages store = new RowPages();
        store.begin();
        Steps.jump(store, 20, 10);
        Check.badState("in range", () -> store.jump(1));
        Check.badArguments("out of range", 1, 20, store::jump);
    }

    @Says("of several exceptions it is the first one of the throws clause")
    @Break(from = "checkTransaction(transaction); checkActive(transaction); transactions.finish",
            to = "checkActive(transaction); checkTransaction(transaction); transactions.finish")
    static void firstOfEnd() {
        RowPages store = new RowPages();
        Check.noTransactions("what never was is not active, either", 0, number -> store.end(number, true));
    }

    @Says("of several exceptions it is the first one of the throws clause")
    @Break(from = "checkTransaction(transaction); checkKey(key); checkActive(transaction); int place = seenPlace(transaction, key);"
            + " return isPlace(place)",
            to = "checkKey(key); checkTransaction(transaction); checkActive(transaction); int place = seenPlace(transaction, key);"
                    + " return isPlace(place)")
    @Break(from = "checkTransaction(transaction); checkKey(key); checkActive(transaction); int place = seenPlace(transaction, key);"
            + " return isPlace(place)",
            to = "checkTransaction(transaction); checkActive(transaction); checkKey(key); int place = seenPlace(transaction, key);"
                    + " return isPlace(place)")
    static void firstOfRead() {
        RowPages store = withOneEnded();
        Check.noTransactions("and a bad key", 1, number -> store.read(number, 6));
        Check.badArguments("and one that ended", 0, 5, key -> store.read(0, key));
    }

    @Says("of several exceptions it is the first one of the throws clause")
    @Break(from = "checkTransaction(transaction); checkKey(key); checkActive(transaction); for (int row",
            to = "checkKey(key); checkTransaction(transaction); checkActive(transaction); for (int row")
    @Break(from = "checkTransaction(transaction); checkKey(key); checkActive(transaction); for (int row",
            to = "checkTransaction(transaction); checkActive(transaction); checkKey(key); for (int row")
    static void firstOfReadPlain() {
        RowPages store = withOneEnded();
        Check.noTransactions("and a bad key", 1, number -> store.readPlain(number, -1));
        Check.badArguments("and one that ended", 0, 5, key -> store.readPlain(0, key));
    }

    @Says("of several exceptions it is the first one of the throws clause")
    @Break(from = "checkTransaction(transaction); checkKey(key); checkValue(value);",
            to = "checkKey(key); checkTransaction(transaction); checkValue(value);")
    @Break(from = "checkTransaction(transaction); checkKey(key); checkValue(value);",
            to = "checkValue(value); checkTransaction(transaction); checkKey(key);")
    @Break(from = "checkKey(key); checkValue(value); checkActive(transaction);",
            to = "checkActive(transaction); checkKey(key); checkValue(value);")
    @Break(from = "checkValue(value); checkActive(transaction); checkNotRefused(transaction, key);",
            to = "checkActive(transaction); checkNotRefused(transaction, key); checkValue(value);")
    static void firstOfWrite() {
        RowPages store = withOneEnded();
        Check.noTransactions("and a bad key", 1, number -> store.write(number, 6, 1));
        Check.noTransactions("and a bad value", 1, number -> store.write(number, 0, 10000));
        Check.badArguments("a key, and one that ended", 0, 5, key -> store.write(0, key, 1));
        Check.badArguments("a value, and one that ended", 0, 9999, value -> store.write(0, 0, value));
        int one = store.begin();
        int other = store.begin();
        store.write(one, 0, 1);
        Check.badArguments("a value, and refused", 0, 9999, value -> store.write(other, 0, value));
        Steps.write(store, one, 0, 31);
        Check.badArguments("a value, and no slot", 0, 9999, value -> store.write(one, 0, value));
    }

    @Says("of several exceptions it is the first one of the throws clause")
    @Break(from = "checkTransaction(transaction); checkKey(key); checkActive(transaction); int place = seenPlace(transaction, key);"
            + " if (!isPlace(place))",
            to = "checkKey(key); checkTransaction(transaction); checkActive(transaction); int place = seenPlace(transaction, key);"
                    + " if (!isPlace(place))")
    @Break(from = "checkTransaction(transaction); checkKey(key); checkActive(transaction); int place = seenPlace(transaction, key);"
            + " if (!isPlace(place))",
            to = "checkTransaction(transaction); checkActive(transaction); checkKey(key); int place = seenPlace(transaction, key);"
                    + " if (!isPlace(place))")
    static void firstOfDelete() {
        RowPages store = withOneEnded();
        Check.noTransactions("and a bad key", 1, number -> store.delete(number, 6));
        Check.badArguments("and one that ended", 0, 5, key -> store.delete(0, key));
    }

    private static RowPages withOneEnded() {
        RowPages store = new RowPages();
        store.end(store.begin(), true);
        return store;
    }
}
