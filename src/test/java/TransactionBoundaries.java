/** Boundary cases of transactions and their stamps: of the Terms and of promises 1 to 6. */
final class TransactionBoundaries {
    private TransactionBoundaries() {
    }

    @Says(in = "Promise 1", value = "Begins with empty pages.")
    @Break(from = "Slots() { for (int place = 0; place < PLACES; place++)",
            to = "Slots() { for (int place = 0; place < PLACES - 1; place++)")
    @Break(from = "Slots() { for (int place = 0; place < PLACES; place++)",
            to = "Slots() { for (int place = 1; place < PLACES; place++)")
    static void newPagesAreEmpty() {
        RowPages store = new RowPages();
        for (int page = 0; page < 4; page++) {
            Check.same("fullness", store.fullness(page), 0f);
            for (int slot = 0; slot < 8; slot++) {
                Check.same("slot", store.slot(page, slot), -1);
            }
        }
    }

    @Says("Transactions are numbered from 0 as they begin, at most 60")
    @Break(from = "return transactions.start();", to = "return transactions.start() + 1;")
    @Break(from = "int transaction = count;", to = "int transaction = activeCount();")
    static void numbersFrom0() {
        RowPages store = new RowPages();
        Check.same("the first number", store.begin(), 0);
        Check.same("the second number", store.begin(), 1);
        store.end(0, true);
        Check.same("a number is not used again behind a commit", store.begin(), 2);
        store.end(2, false);
        Check.same("nor behind taking back", store.begin(), 3);
    }

    @Says(in = "Promise 2", value = "Returns its number.")
    @Break(from = "count++; skip(1); return transaction;", to = "count++; skip(1); return count;")
    @Break(from = "return transactions.start();", to = "return Math.min(transactions.start(), 58);")
    static void numberOfTheFirstAndTheLast() {
        RowPages store = new RowPages();
        int number = store.begin();
        Check.same("the first", number, 0);
        for (int time = 1; time < 60; time++) {
            store.end(number, true);
            number = store.begin();
            Check.same("it is active", store.read(number, 0), -1);
        }
        Check.same("the last", number, 59);
        Check.same("ended by its number", store.end(59, true), 0);
    }

    @Says(in = "Promise 2", value = "Throws `IllegalStateException` if there were 60")
    @Break(from = "TRANSACTIONS = 60;", to = "TRANSACTIONS = 59;")
    @Break(from = "TRANSACTIONS = 60;", to = "TRANSACTIONS = 61;")
    @Break(from = "return count >= TRANSACTIONS;", to = "return activeCount() >= TRANSACTIONS;")
    static void sixtyTransactions() {
        RowPages store = new RowPages();
        for (int number = 0; number < 60; number++) {
            Check.same("number", store.begin(), number);
            store.end(number, number % 2 == 0);
        }
        Check.badState("the 61st, though none is active", store::begin);
    }

    @Says(in = "Promise 2", value = "or the oldest age is 28 or more")
    @Break(from = "AGE_THAT_STOPS_BEGIN = 28;", to = "AGE_THAT_STOPS_BEGIN = 27;")
    @Break(from = "AGE_THAT_STOPS_BEGIN = 28;", to = "AGE_THAT_STOPS_BEGIN = 29;")
    @Break(from = "oldest() >= AGE_THAT_STOPS_BEGIN", to = "oldest() == AGE_THAT_STOPS_BEGIN")
    static void beginAtAge28() {
        RowPages store = new RowPages();
        store.begin();
        Steps.jump(store, 20, 6);
        Check.same("at 27", store.oldest(), 27);
        Check.same("it begins", store.begin(), 1);
        Check.same("at 28", store.oldest(), 28);
        Check.badState("it does not begin", store::begin);
        store.jump(3);
        Check.same("at 31", store.oldest(), 31);
        Check.badState("nor then", store::begin);
        store.end(0, true);
        Check.same("it begins when the old one has ended", store.begin(), 2);
    }

    @Says("it is active until it commits or is taken back")
    @Break(from = "active &= ~(1L << transaction); if (commits)",
            to = "if (commits) { active &= ~(1L << transaction); } if (commits)")
    @Break(from = "active &= ~(1L << transaction); if (commits)",
            to = "if (!commits) { active &= ~(1L << transaction); } if (commits)")
    static void activeUntilEitherEnd() {
        RowPages store = new RowPages();
        store.begin();
        store.begin();
        Check.same("active from the begin on", store.read(1, 0), -1);
        Check.same("one is left", store.end(0, true), 1);
        Check.badState("read by one that committed", () -> store.read(0, 0));
        Check.same("none is left", store.end(1, false), 0);
        Check.badState("read by one that was taken back", () -> store.read(1, 0));
    }

    @Says("the first transaction has the stamp 0")
    @Break(from = "private int nextStamp;", to = "private int nextStamp = 1;")
    static void firstStampIs0() {
        RowPages store = new RowPages();
        store.begin();
        Check.same("stamp", store.stamp(0), 0);
    }

    @Says("each other one the next one behind the latest")
    @Break(from = "skip(1); return transaction;", to = "skip(2); return transaction;")
    @Break(from = "active &= ~(1L << transaction);", to = "active &= ~(1L << transaction); nextStamp = stamps[transaction];")
    static void nextStampBehindTheLatest() {
        RowPages store = new RowPages();
        store.begin();
        store.begin();
        Check.same("the second stamp", store.stamp(1), 1);
        store.end(1, false);
        store.end(0, true);
        store.begin();
        Check.same("behind the latest, though it has ended", store.stamp(2), 2);
    }

    @Says("0 behind 63")
    @Break(from = "(nextStamp + stampCount) % STAMPS", to = "(nextStamp + stampCount) % (STAMPS - 1)")
    @Break(from = "(nextStamp + stampCount) % STAMPS", to = "(nextStamp + stampCount) % (STAMPS + 1)")
    static void stamp0Behind63() {
        RowPages store = new RowPages();
        Steps.jump(store, 20, 20, 20, 2);
        store.begin();
        store.begin();
        store.begin();
        Check.same("62", store.stamp(0), 62);
        Check.same("63", store.stamp(1), 63);
        Check.same("0 behind it", store.stamp(2), 0);
    }

    @Says("the first one, too, behind stamps that were jumped over")
    @Break(from = "stamps[transaction] = nextStamp;", to = "stamps[transaction] = count == 0 ? 0 : nextStamp;")
    static void firstStampBehindAJump() {
        RowPages store = new RowPages();
        store.jump(1);
        store.begin();
        Check.same("stamp", store.stamp(0), 1);
        store.jump(7);
        store.begin();
        Check.same("a later one behind a jump", store.stamp(1), 9);
    }

    @Says("Of two unlike stamps, a is before b")
    @Break(from = "one != other && distance", to = "distance")
    static void noStampIsBeforeItself() {
        RowPages store = new RowPages();
        for (int stamp = 0; stamp < 64; stamp++) {
            Check.same("alike", store.isBefore(stamp, stamp), false);
        }
    }

    @Says("if b less a, modulo 64, is less than 32")
    @Break(from = "distance(one, other) < HALF_CIRCLE", to = "distance(one, other) <= HALF_CIRCLE")
    @Break(from = "distance(one, other) < HALF_CIRCLE", to = "distance(one, other) < HALF_CIRCLE - 1")
    static void halfACircle() {
        RowPages store = new RowPages();
        Check.same("by 1", store.isBefore(0, 1), true);
        Check.same("by 31", store.isBefore(0, 31), true);
        Check.same("by 32", store.isBefore(0, 32), false);
        Check.same("by 32, the other way", store.isBefore(32, 0), false);
        Check.same("by 33", store.isBefore(0, 33), false);
        Check.same("by 33, the other way", store.isBefore(33, 0), true);
    }

    @Says("Stamps are 0 to 63")
    @Break(from = "distance(one, other) < HALF_CIRCLE", to = "one < other && other - one < HALF_CIRCLE")
    @Break(from = "return Math.floorMod(to - from, STAMPS);", to = "return Math.abs(to - from);")
    static void beforeGoesRoundTheCircle() {
        RowPages store = new RowPages();
        Check.same("63 before 0", store.isBefore(63, 0), true);
        Check.same("0 before 63", store.isBefore(0, 63), false);
        Check.same("63 before 30", store.isBefore(63, 30), true);
        Check.same("63 before 31", store.isBefore(63, 31), false);
    }

    @Says(in = "Promise 3", value = "- `commits`: whether it commits, or is taken back")
    @Break(from = "transactions.finish(transaction, commits);", to = "transactions.finish(transaction, !commits);")
    @Break(from = "transactions.finish(transaction, commits); if (!commits) {", to = "transactions.finish(transaction, commits); if (commits) {")
    static void endsInTwoWays() {
        RowPages store = new RowPages();
        Steps.put(store, 0, 1);
        Steps.putAndTakeBack(store, 0, 2);
        int reader = store.begin();
        Steps.reads("what is not taken back stands", store, reader, 0, 1);
        Steps.put(store, 0, 3);
        Steps.reads("what has committed stands", store, store.begin(), 0, 3);
    }

    @Says(in = "Promise 3", value = "Returns how many transactions are active then.")
    @Break(from = "return transactions.activeCount();", to = "return transactions.activeCount() + 1;")
    @Break(from = "return transactions.activeCount();", to = "return transactions.count - 1;")
    static void endCountsDownToNone() {
        RowPages store = new RowPages();
        store.begin();
        Check.same("the only one", store.end(0, true), 0);
        store.begin();
        store.begin();
        Check.same("one of two", store.end(1, false), 1);
        Check.same("the last one", store.end(2, true), 0);
    }

    @Says(in = "Promise 3", value = "Throws `IndexOutOfBoundsException` if there never was such a transaction")
    @Break(from = "checkTransaction(transaction); checkActive(transaction); transactions.finish",
            to = "checkActive(transaction); transactions.finish")
    @Break(from = "return transaction >= 0 && transaction < count;", to = "return transaction >= 0 && transaction <= count;")
    static void endOfNone() {
        RowPages store = new RowPages();
        Check.noTransactions("end", 0, number -> store.end(number, true));
        store.begin();
        Check.noTransactions("end", 1, number -> store.end(number, false));
    }

    @Says(in = "Promise 3", value = "Throws `IllegalStateException` if it is not active")
    @Break(from = "checkActive(transaction); transactions.finish", to = "transactions.finish")
    static void endTwice() {
        RowPages store = new RowPages();
        store.begin();
        store.begin();
        store.end(0, true);
        store.end(1, false);
        Check.badState("one that committed", () -> store.end(0, true));
        Check.badState("one that committed", () -> store.end(0, false));
        Check.badState("one that was taken back", () -> store.end(1, true));
        Check.badState("one that was taken back", () -> store.end(1, false));
    }

    @Says(in = "Promise 4", value = "- `stamps`: 1 to 20")
    @Break(from = "stamps < 1 ||", to = "stamps < 2 ||")
    @Break(from = "LONGEST_JUMP = 20;", to = "LONGEST_JUMP = 19;")
    static void shortestAndLongestJump() {
        RowPages store = new RowPages();
        Check.same("by 1", store.jump(1), 1);
        Check.same("by 20", store.jump(20), 21);
    }

    @Says(in = "Promise 4", value = "Returns the stamp that the next transaction gets.")
    @Break(from = "return transactions.skip(stamps);", to = "return transactions.skip(stamps) - stamps;")
    @Break(from = "nextStamp = (nextStamp + stampCount) % STAMPS; return nextStamp;",
            to = "int reached = nextStamp + stampCount; nextStamp = reached % STAMPS; return reached;")
    static void jumpTellsTheNextStamp() {
        RowPages store = new RowPages();
        Steps.jump(store, 20, 20, 20);
        Check.same("the last stamp", store.jump(3), 63);
        Check.same("over the end", store.jump(1), 0);
        store.begin();
        Check.same("the one that was told", store.stamp(0), 0);
        store.end(0, true);
        Check.same("behind a transaction", store.jump(2), 3);
    }

    @Says(in = "Promise 4", value = "Throws `IllegalArgumentException` if stamps is out of range")
    @Break(from = "stamps < 1 ||", to = "stamps < 0 ||")
    @Break(from = "LONGEST_JUMP = 20;", to = "LONGEST_JUMP = 21;")
    static void jumpTooShortOrTooLong() {
        RowPages store = new RowPages();
        Check.badArguments("jump", 1, 20, store::jump);
    }

    @Says(in = "Promise 4", value = "Throws `IllegalStateException` if the oldest age, if it is above 0, would be 32 or more")
    @Break(from = "age + stamps >= HALF_CIRCLE", to = "age + stamps > HALF_CIRCLE")
    @Break(from = "age + stamps >= HALF_CIRCLE", to = "age + stamps >= HALF_CIRCLE - 1")
    @Break(from = "age + stamps >= HALF_CIRCLE", to = "age >= HALF_CIRCLE")
    static void jumpToAge32() {
        RowPages store = new RowPages();
        store.begin();
        store.jump(11);
        Check.badState("from 12 by 20", () -> store.jump(20));
        Check.same("from 12 by 19", store.jump(19), 31);
        Check.same("to 31", store.oldest(), 31);
        Check.badState("from 31 by 1", () -> store.jump(1));
    }

    @Says(in = "Promise 4", value = "if it is above 0")
    @Break(from = "age > 0 && age + stamps", to = "transactions.ageOf(0) + stamps")
    static void jumpWithoutAnyAge() {
        RowPages store = new RowPages();
        for (int time = 1; time <= 7; time++) {
            Check.same("never refused", store.jump(20), time * 20 % 64);
            Check.same("nothing is old", store.oldest(), 0);
        }
    }

    @Says(in = "Promise 5", value = "Returns the stamp of a transaction.")
    @Break(from = "return transactions.stamps[transaction];",
            to = "checkActiveOrNot(transaction); return transactions.stamps[transaction]; }"
                    + " private void checkActiveOrNot(int transaction) {"
                    + " if (!transactions.isActive(transaction)) { throw new IllegalStateException(\"\"); }")
    static void stampOfOnesThatEnded() {
        RowPages store = new RowPages();
        store.begin();
        store.begin();
        store.begin();
        store.end(0, true);
        store.end(1, false);
        Check.same("one that committed", store.stamp(0), 0);
        Check.same("one that was taken back", store.stamp(1), 1);
        Check.same("an active one", store.stamp(2), 2);
    }

    @Says(in = "Promise 5", value = "Throws `IndexOutOfBoundsException` if there never was such a transaction")
    @Break(from = "checkTransaction(transaction); return transactions.stamps[transaction];",
            to = "return transactions.stamps[Math.floorMod(transaction, TRANSACTIONS)];")
    @Break(from = "return transaction >= 0 && transaction < count;", to = "return transaction < count;")
    static void stampOfNone() {
        RowPages store = new RowPages();
        Check.noTransactions("stamp", 0, store::stamp);
        store.begin();
        Check.noTransactions("stamp", 1, store::stamp);
    }

    @Says(in = "Promise 6", value = "- `one`: 0 to 63")
    @Break(from = "if (stamp < 0 || stamp >= STAMPS)", to = "if (stamp <= 0 || stamp >= STAMPS)")
    @Break(from = "if (stamp < 0 || stamp >= STAMPS)", to = "if (stamp < 0 || stamp >= STAMPS - 1)")
    static void leastAndGreatestOne() {
        RowPages store = new RowPages();
        Check.same("0", store.isBefore(0, 1), true);
        Check.same("63", store.isBefore(63, 1), true);
    }

    @Says(in = "Promise 6", value = "- `other`: 0 to 63")
    @Break(from = "if (stamp < 0 || stamp >= STAMPS)", to = "if (stamp <= 0 || stamp >= STAMPS)")
    @Break(from = "if (stamp < 0 || stamp >= STAMPS)", to = "if (stamp < 0 || stamp >= STAMPS - 1)")
    static void leastAndGreatestOther() {
        RowPages store = new RowPages();
        Check.same("0", store.isBefore(62, 0), true);
        Check.same("63", store.isBefore(62, 63), true);
    }

    @Says(in = "Promise 6", value = "Throws `IllegalArgumentException` if one or other is out of range")
    @Break(from = "checkStamp(one); checkStamp(other);", to = "checkStamp(one);")
    @Break(from = "checkStamp(one); checkStamp(other);", to = "checkStamp(other);")
    @Break(from = "if (stamp < 0 || stamp >= STAMPS)", to = "if (stamp < 0 || stamp > STAMPS)")
    @Break(from = "if (stamp < 0 || stamp >= STAMPS)", to = "if (stamp < -1 || stamp >= STAMPS)")
    static void stampsOutOfRange() {
        RowPages store = new RowPages();
        Check.badArguments("one", 0, 63, stamp -> store.isBefore(stamp, 0));
        Check.badArguments("other", 0, 63, stamp -> store.isBefore(0, stamp));
        Check.badArguments("both", 0, 63, stamp -> store.isBefore(stamp, stamp));
    }
}
