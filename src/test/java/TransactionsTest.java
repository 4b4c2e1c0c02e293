/** Promises 1 to 6. */
final class TransactionsTest {
    private TransactionsTest() {
    }

    public static void main(String[] args) {
        newObject();
        beginNumbers();
        beginAtSixty();
        beginAtOldAge();
        beginAtOldVersions();
        endCounts();
        endThrows();
        endTakesBack();
        jumpGoesRound();
        jumpThrows();
        jumpMindsOldest();
        jumpWithoutAge();
        stampsGoRound();
        stampThrows();
        isBefore();
        Check.finish();
    }

    private static void newObject() {
        RowPages store = new RowPages();
        for (int page = 0; page < 4; page++) {
            for (int slot = 0; slot < 8; slot++) {
                Check.same("1: every slot is empty", store.slot(page, slot), -1);
            }
            Check.same("1: a page is empty", store.fullness(page), 0f);
            Check.same("1: an empty page is whole", store.isWhole(page), true);
            Check.same("1: a page that was never cleaned is not mapped", store.isMapped(page), false);
        }
        for (int key = 0; key < 6; key++) {
            Check.same("1: no entries", store.entries(key), 0);
        }
        Check.same("1: nothing is old", store.oldest(), 0);
        Check.noTransaction("1: no transaction", () -> store.stamp(0));
        Check.same("1: the freezing age is 20 at first", store.setFreezing(20), 20);
    }

    private static void beginNumbers() {
        RowPages store = new RowPages();
        Check.same("2: the first number", store.begin(), 0);
        Check.same("2: the second number", store.begin(), 1);
        store.end(0, false);
        Check.same("2: numbers are not used again", store.begin(), 2);
    }

    private static void beginAtSixty() {
        RowPages store = new RowPages();
        for (int number = 0; number < 60; number++) {
            Check.same("2: sixty can begin", store.begin(), number);
            store.end(number, number % 2 == 0);
        }
        Check.badState("2: the sixty-first", store::begin);
        Check.same("2: the last one's stamp", store.stamp(59), 59);
        Check.noTransaction("2: the refused one is none", () -> store.stamp(60));
        Check.same("2: a refused one takes no stamp", store.jump(1), 61);
    }

    private static void beginAtOldAge() {
        RowPages store = new RowPages();
        store.begin();
        store.jump(20);
        store.jump(6);
        Check.same("2: the age is 27", store.oldest(), 27);
        Check.same("2: begin at 27", store.begin(), 1);
        Check.same("2: the age is 28", store.oldest(), 28);
        Check.badState("2: begin at 28", store::begin);
        store.jump(3);
        Check.badState("2: begin at 31", store::begin);
        store.end(0, true);
        Check.same("2: begin again", store.begin(), 2);
        Check.same("2: its stamp", store.stamp(2), 31);
    }

    private static void beginAtOldVersions() {
        RowPages store = new RowPages();
        Steps.put(store, 0, 1);
        store.jump(20);
        store.jump(7);
        Check.badState("2: a birth of age 28", store::begin);
        store.clean(0);
        Check.same("2: it is frozen then", store.begin(), 1);
        store.delete(1, 0);
        store.end(1, true);
        store.jump(20);
        store.jump(7);
        Check.badState("2: a death of age 28", store::begin);
        store.clean(0);
        Check.same("2: it is gone then", store.begin(), 2);
    }

    private static void endCounts() {
        RowPages store = new RowPages();
        for (int number = 0; number < 4; number++) {
            store.begin();
        }
        Check.same("3: three are left", store.end(1, true), 3);
        Check.same("3: two are left", store.end(3, false), 2);
        Check.same("3: one is left", store.end(0, true), 1);
        store.begin();
        Check.same("3: a new one counts", store.end(2, false), 1);
        Check.same("3: none is left", store.end(4, true), 0);
    }

    private static void endThrows() {
        RowPages store = new RowPages();
        Check.noTransaction("3: none", () -> store.end(0, true));
        store.begin();
        Check.noTransaction("3: -1", () -> store.end(-1, true));
        Check.noTransaction("3: 1", () -> store.end(1, false));
        Check.noTransaction("3: least", () -> store.end(Integer.MIN_VALUE, false));
        Check.noTransaction("3: greatest", () -> store.end(Integer.MAX_VALUE, true));
        Check.noTransaction("3: 64 is not 0", () -> store.end(64, true));
        store.end(0, true);
        Check.badState("3: one that has committed", () -> store.end(0, false));
        store.begin();
        store.end(1, false);
        Check.badState("3: one that was taken back", () -> store.end(1, true));
    }

    private static void endTakesBack() {
        RowPages store = new RowPages();
        Steps.put(store, 0, 5);
        Steps.put(store, 1, 6);
        int back = store.begin();
        store.write(back, 0, 7);
        store.delete(back, 1);
        store.write(back, 2, 8);
        store.end(back, false);
        Check.same("3: a change is taken back", store.slot(0, 0), 300);
        Check.same("3: a deletion is taken back", store.slot(0, 1), 1);
        Check.same("3: the dead versions stay in their slots", store.slot(0, 3), 2);
        Check.same("3: the old value", Steps.look(store, 0), 5);
        Check.same("3: the key that was deleted", Steps.look(store, 1), 6);
        Check.same("3: the key that was inserted", Steps.look(store, 2), -1);
        int other = store.begin();
        int kept = store.begin();
        store.delete(other, 0);
        store.delete(kept, 1);
        store.end(other, false);
        Check.same("3: deaths of another one stay", store.slot(0, 1), 21);
        store.end(kept, true);
        Check.same("3: a commit keeps its deaths", Steps.look(store, 1), -1);
    }

    private static void jumpGoesRound() {
        RowPages store = new RowPages();
        Check.same("4: by 20", store.jump(20), 20);
        Check.same("4: by 1", store.jump(1), 21);
        store.jump(20);
        store.jump(20);
        Check.same("4: to the last stamp", store.jump(2), 63);
        Check.same("4: round the circle", store.jump(1), 0);
        store.jump(20);
        store.jump(20);
        store.jump(20);
        Check.same("4: over the end", store.jump(20), 16);
        store.begin();
        Check.same("4: the next one gets it", store.stamp(0), 16);
    }

    private static void jumpThrows() {
        RowPages store = new RowPages();
        Check.badArgument("4: 0", () -> store.jump(0));
        Check.badArgument("4: 21", () -> store.jump(21));
        Check.badArgument("4: -1", () -> store.jump(-1));
        Check.badArgument("4: least", () -> store.jump(Integer.MIN_VALUE));
        Check.badArgument("4: greatest", () -> store.jump(Integer.MAX_VALUE));
        Check.same("4: nothing has changed", store.jump(1), 1);
        store.begin();
        store.jump(20);
        store.jump(10);
        Check.badArgument("4: the argument comes first", () -> store.jump(21));
        Check.badState("4: then the state", () -> store.jump(1));
    }

    private static void jumpMindsOldest() {
        RowPages store = new RowPages();
        store.begin();
        store.jump(20);
        Check.badState("4: to 32", () -> store.jump(11));
        Check.same("4: nothing jumped", store.oldest(), 21);
        Check.same("4: to 31", store.jump(10), 31);
        Check.badState("4: from 31", () -> store.jump(1));
        store.end(0, true);
        Check.same("4: with nothing old", store.jump(20), 51);
    }

    private static void jumpWithoutAge() {
        RowPages store = new RowPages();
        for (int time = 1; time <= 20; time++) {
            Check.same("4: without any age no jump is refused", store.jump(20), time * 20 % 64);
        }
    }

    private static void stampsGoRound() {
        RowPages store = new RowPages();
        for (int number = 0; number < 3; number++) {
            store.begin();
            Check.same("5: one by one", store.stamp(number), number);
            store.end(number, true);
        }
        store.jump(20);
        store.jump(20);
        store.jump(20);
        store.begin();
        store.begin();
        store.begin();
        Check.same("5: behind what was jumped over", store.stamp(3), 63);
        Check.same("5: 0 behind 63", store.stamp(4), 0);
        Check.same("5: a stamp can be had twice", store.stamp(5), 1);
        Check.same("5: of one that has ended", store.stamp(1), 1);
        store.end(4, false);
        Check.same("5: of one that was taken back", store.stamp(4), 0);
        RowPages jumped = new RowPages();
        jumped.jump(7);
        jumped.begin();
        Check.same("5: the first one, too, behind a jump", jumped.stamp(0), 7);
    }

    private static void stampThrows() {
        RowPages store = new RowPages();
        Check.noTransaction("5: none", () -> store.stamp(0));
        store.begin();
        Check.noTransaction("5: -1", () -> store.stamp(-1));
        Check.noTransaction("5: 1", () -> store.stamp(1));
        Check.noTransaction("5: 60", () -> store.stamp(60));
        Check.noTransaction("5: greatest", () -> store.stamp(Integer.MAX_VALUE));
        Check.noTransaction("5: least", () -> store.stamp(Integer.MIN_VALUE));
    }

    private static void isBefore() {
        RowPages store = new RowPages();
        for (int one = 0; one < 64; one++) {
            for (int step = 0; step < 64; step++) {
                int other = one + step < 64 ? one + step : one + step - 64;
                boolean due = step >= 1 && step <= 31;
                Check.same("6: " + one + " before " + other, store.isBefore(one, other), due);
            }
        }
        Check.badArgument("6: one is 64", () -> store.isBefore(64, 0));
        Check.badArgument("6: one is -1", () -> store.isBefore(-1, 0));
        Check.badArgument("6: other is 64", () -> store.isBefore(0, 64));
        Check.badArgument("6: other is -1", () -> store.isBefore(0, -1));
        Check.badArgument("6: least", () -> store.isBefore(0, Integer.MIN_VALUE));
        Check.badArgument("6: greatest", () -> store.isBefore(Integer.MAX_VALUE, 0));
    }
}
