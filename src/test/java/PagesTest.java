/** Promises 11 to 18. */
final class PagesTest {
    private PagesTest() {
    }

    public static void main(String[] args) {
        cleanCounts();
        cleanMindsSnapshots();
        cleanMendsChains();
        cleanMendsEntries();
        cleanOnePageOnly();
        cleanFreezes();
        cleanFreezesBySnapshots();
        setFreezing();
        mapTells();
        wholeTells();
        slotTells();
        entriesTell();
        fullnessTells();
        oldestTells();
        pagesThrow();
        Check.finish();
    }

    private static void cleanCounts() {
        RowPages store = new RowPages();
        Check.same("11: an empty page", store.clean(0), 0);
        int own = store.begin();
        Steps.write(store, own, 0, 3);
        Check.same("11: not of an active one", store.clean(0), 0);
        store.end(own, true);
        Check.same("11: old versions go", store.clean(0), 2);
        Check.same("11: just once", store.clean(0), 0);
        Check.same("11: the last one stays", store.slot(0, 2), 0);
        int back = store.begin();
        store.write(back, 0, 9);
        store.write(back, 1, 9);
        store.end(back, false);
        Check.same("11: those taken back go", store.clean(0), 2);
        Steps.remove(store, 0);
        Check.same("11: a deleted one goes", store.clean(0), 1);
        Check.same("11: nothing is left", store.fullness(0), 0f);
        Check.same("11: no entry is left", store.entries(0), 0);
    }

    private static void cleanMindsSnapshots() {
        RowPages store = new RowPages();
        Steps.put(store, 0, 1);
        int early = store.begin();
        Steps.put(store, 0, 2);
        int late = store.begin();
        Check.same("11: an active one had not seen the death", store.clean(0), 0);
        store.end(late, true);
        Check.same("11: the earlier one still", store.clean(0), 0);
        Check.same("7: it reads the old one", store.read(early, 0), 1);
        int back = store.begin();
        store.write(back, 3, 3);
        store.end(back, false);
        Check.same("11: one taken back goes at once", store.clean(0), 1);
        store.end(early, false);
        Check.same("11: all have seen it", store.clean(0), 1);
        int after = store.begin();
        Steps.put(store, 1, 1);
        Steps.remove(store, 1);
        Check.same("11: born and dead behind a snapshot", store.clean(0), 0);
        store.end(after, true);
        Check.same("11: until it ends", store.clean(0), 1);
    }

    private static void cleanMendsChains() {
        RowPages store = new RowPages();
        Steps.put(store, 0, 1);
        int reader = store.begin();
        int own = store.begin();
        Steps.write(store, own, 0, 2);
        store.end(own, true);
        store.end(reader, true);
        int second = store.begin();
        Steps.put(store, 0, 9);
        Check.same("11: the chain", store.slot(0, 1), 320);
        Check.same("11: the first two go", store.clean(0), 2);
        Check.same("11: the third stays", store.slot(0, 2), 420);
        Check.same("7: read by the old snapshot", store.read(second, 0), 1);
        store.end(second, true);
        int third = store.begin();
        store.write(third, 0, 10);
        store.end(third, false);
        Check.same("11: one in the middle and one at the end", store.clean(0), 2);
        Check.same("11: no next is left", store.slot(0, 3), 0);
        Check.same("7: the value", Steps.look(store, 0), 9);
        int fourth = store.begin();
        Check.same("9: the chain goes on", store.write(fourth, 0, 11), 100000);
        Check.same("9: in a lower slot", store.slot(0, 3), 120);
    }

    private static void cleanMendsEntries() {
        RowPages store = new RowPages();
        Steps.put(store, 0, 1);
        Steps.remove(store, 0);
        int reader = store.begin();
        Steps.put(store, 0, 2);
        Steps.put(store, 0, 3);
        Steps.remove(store, 0);
        Steps.put(store, 0, 4);
        Check.same("16: three entries", store.entries(0), 3);
        Check.same("11: the first one goes", store.clean(0), 1);
        Check.same("16: with its entry", store.entries(0), 2);
        store.end(reader, true);
        Check.same("11: the second chain goes", store.clean(0), 2);
        Check.same("16: with its entry", store.entries(0), 1);
        Check.same("7: the last one is read", Steps.look(store, 0), 4);
        Steps.put(store, 0, 5);
        Check.same("11: the first of a chain goes", store.clean(0), 1);
        Check.same("16: its entry points to the next", store.entries(0), 1);
        Check.same("7: found by it", Steps.look(store, 0), 5);
    }

    private static void cleanOnePageOnly() {
        RowPages store = new RowPages();
        int own = store.begin();
        Steps.write(store, own, 0, 20);
        store.end(own, true);
        Check.same("11: page 1", store.clean(1), 8);
        Check.same("11: page 0 is as it was", store.fullness(0), 1f);
        Check.same("11: page 2 is as it was", store.fullness(2), 0.5f);
        Check.same("11: page 3", store.clean(3), 0);
        Check.same("16: one entry less", store.entries(0), 2);
        Check.same("11: page 2", store.clean(2), 3);
        Check.same("11: page 0", store.clean(0), 8);
        Check.same("7: the value", Steps.look(store, 0), 19);
    }

    private static void cleanFreezes() {
        RowPages store = new RowPages();
        Steps.put(store, 0, 1);
        store.jump(18);
        store.clean(0);
        Check.same("11: 19 is not 20", store.slot(0, 0), 0);
        store.jump(1);
        Check.same("18: the age", store.oldest(), 20);
        store.clean(1);
        Check.same("11: another page freezes nothing", store.slot(0, 0), 0);
        store.clean(0);
        Check.same("11: 20 is", store.slot(0, 0), 10);
        Check.same("18: it has no age", store.oldest(), 0);
        int own = store.begin();
        store.delete(own, 0);
        Check.same("15: frozen with a death", store.slot(0, 0), 30);
        store.end(own, false);
        Check.same("15: frozen still", store.slot(0, 0), 10);
        store.setFreezing(1);
        int next = store.begin();
        store.write(next, 1, 1);
        store.jump(5);
        store.clean(0);
        Check.same("11: not of an active one", store.slot(0, 1), 1);
        store.end(next, true);
        store.clean(0);
        Check.same("11: of one that has committed", store.slot(0, 1), 11);
    }

    private static void cleanFreezesBySnapshots() {
        RowPages store = new RowPages();
        store.setFreezing(3);
        int early = store.begin();
        Steps.put(store, 0, 1);
        store.jump(3);
        int late = store.begin();
        store.delete(late, 0);
        store.clean(0);
        Check.same("11: an early snapshot keeps it from freezing", store.slot(0, 0), 20);
        store.end(early, true);
        store.clean(0);
        Check.same("11: one with a death freezes too", store.slot(0, 0), 30);
        store.end(late, true);
        Check.same("11: a frozen one can go", store.clean(0), 1);
        Check.same("1: its slot is empty", store.slot(0, 0), -1);
        Steps.put(store, 1, 1);
        Check.same("15: a new one there is not frozen", store.slot(0, 0), 1);
    }

    private static void setFreezing() {
        RowPages store = new RowPages();
        Check.same("12: the first age", store.setFreezing(1), 20);
        Check.same("12: the second age", store.setFreezing(27), 1);
        Check.badArgument("12: 0", () -> store.setFreezing(0));
        Check.badArgument("12: 28", () -> store.setFreezing(28));
        Check.badArgument("12: least", () -> store.setFreezing(Integer.MIN_VALUE));
        Check.badArgument("12: greatest", () -> store.setFreezing(Integer.MAX_VALUE));
        Check.same("12: nothing has changed", store.setFreezing(5), 27);
        Steps.put(store, 0, 1);
        store.jump(3);
        store.clean(0);
        Check.same("12: 4 is not 5", store.slot(0, 0), 0);
        store.setFreezing(4);
        Check.same("12: by itself it freezes nothing", store.slot(0, 0), 0);
        store.clean(0);
        Check.same("12: 4 is 4", store.slot(0, 0), 10);
    }

    private static void mapTells() {
        RowPages store = new RowPages();
        Steps.put(store, 0, 1);
        Check.same("13: whole, but never cleaned", store.isMapped(0), false);
        store.clean(0);
        Check.same("13: whole when cleaned", store.isMapped(0), true);
        Check.same("13: the other ones were not cleaned", store.isMapped(1), false);
        int own = store.begin();
        store.read(own, 0);
        Check.same("13: reading writes nothing", store.isMapped(0), true);
        Check.same("10: deleting nothing", store.delete(own, 1), false);
        Check.same("13: nor does that", store.isMapped(0), true);
        store.delete(own, 0);
        Check.same("13: a death is written", store.isMapped(0), false);
        store.end(own, false);
        Check.same("14: whole again", store.isWhole(0), true);
        Check.same("13: the map does not tell it", store.isMapped(0), false);
        store.clean(0);
        Check.same("13: until it is cleaned", store.isMapped(0), true);
        Steps.put(store, 1, 1);
        Check.same("13: a version is written", store.isMapped(0), false);
        int reader = store.begin();
        Steps.put(store, 1, 2);
        store.clean(0);
        Check.same("13: not whole when cleaned", store.isMapped(0), false);
        store.end(reader, true);
        Check.same("13: nor later by itself", store.isMapped(0), false);
        store.clean(0);
        Check.same("13: cleaned, then whole", store.isMapped(0), true);
        mapTellsOfTwoPages();
    }

    private static void mapTellsOfTwoPages() {
        RowPages store = new RowPages();
        Steps.put(store, 0, 1);
        for (int key = 1; key < 5; key++) {
            Steps.put(store, key, 1);
        }
        int filler = store.begin();
        Steps.write(store, filler, 5, 3);
        store.end(filler, false);
        store.clean(1);
        Check.same("13: an empty page is whole", store.isMapped(1), true);
        int own = store.begin();
        Check.same("9: to the second page", store.write(own, 0, 2), 1000);
        Check.same("13: it was written to", store.isMapped(1), false);
        store.end(own, true);
        store.clean(0);
        store.clean(1);
        Check.same("13: the first page", store.isMapped(0), true);
        Steps.put(store, 0, 3);
        Check.same("13: the first page is as it was", store.isMapped(0), true);
        Check.same("13: the second one is not", store.isMapped(1), false);
    }

    private static void wholeTells() {
        RowPages store = new RowPages();
        int early = store.begin();
        int own = store.begin();
        store.write(own, 0, 1);
        Check.same("14: an active one's", store.isWhole(0), false);
        Check.same("14: other pages", store.isWhole(1), true);
        store.end(own, true);
        Check.same("14: not in a snapshot", store.isWhole(0), false);
        store.end(early, true);
        Check.same("14: nobody is active", store.isWhole(0), true);
        int reader = store.begin();
        Check.same("14: in the snapshot", store.isWhole(0), true);
        store.delete(reader, 0);
        Check.same("14: an own death", store.isWhole(0), false);
        store.end(reader, true);
        Check.same("14: a death for all", store.isWhole(0), false);
        store.clean(0);
        Check.same("14: cleaned", store.isWhole(0), true);
        int back = store.begin();
        store.write(back, 0, 2);
        store.end(back, false);
        Check.same("14: a dead version", store.isWhole(0), false);
        store.clean(0);
        Check.same("14: gone", store.isWhole(0), true);
    }

    private static void slotTells() {
        RowPages store = new RowPages();
        store.setFreezing(1);
        int own = store.begin();
        for (int key = 0; key < 6; key++) {
            store.write(own, key, key);
            Check.same("15: the key", store.slot(0, key), key);
        }
        store.end(own, true);
        store.clean(0);
        Check.same("15: frozen", store.slot(0, 5), 15);
        int next = store.begin();
        store.write(next, 5, 1);
        Check.same("15: frozen, death, next 6", store.slot(0, 5), 735);
        store.write(next, 5, 2);
        Check.same("15: death, next 7", store.slot(0, 6), 825);
        Check.same("15: the last", store.slot(0, 7), 5);
        Check.same("15: another page", store.slot(3, 7), -1);
        store.write(next, 5, 3);
        Check.same("15: in the second page", store.slot(1, 0), 5);
        store.write(next, 5, 4);
        Check.same("15: the slot in its page, not beyond", store.slot(1, 0), 225);
    }

    private static void entriesTell() {
        RowPages store = new RowPages();
        int own = store.begin();
        for (int time = 0; time < 8; time++) {
            store.write(own, 4, time);
            store.delete(own, 4);
            Check.same("16: an entry for each insertion", store.entries(4), time + 1);
        }
        Check.same("16: none for another key", store.entries(3), 0);
        store.end(own, true);
        store.clean(0);
        Check.same("16: all gone", store.entries(4), 0);
        Check.badArgument("16: key 6", () -> store.entries(6));
        Check.badArgument("16: key -1", () -> store.entries(-1));
        Check.badArgument("16: least", () -> store.entries(Integer.MIN_VALUE));
        Check.badArgument("16: greatest", () -> store.entries(Integer.MAX_VALUE));
    }

    private static void fullnessTells() {
        RowPages store = new RowPages();
        int own = store.begin();
        float[] due = {0.125f, 0.25f, 0.375f, 0.5f, 0.625f, 0.75f, 0.875f, 1f};
        for (int page = 0; page < 4; page++) {
            for (int slot = 0; slot < 8; slot++) {
                store.write(own, 0, slot);
                Check.same("17: by eighths", store.fullness(page), due[slot]);
            }
        }
        store.end(own, false);
        Check.same("17: dead ones count", store.fullness(2), 1f);
        store.clean(2);
        Check.same("17: until they go", store.fullness(2), 0f);
    }

    private static void oldestTells() {
        RowPages store = new RowPages();
        store.begin();
        Check.same("18: the stamp of an active one", store.oldest(), 1);
        store.jump(4);
        store.begin();
        Check.same("18: of the older one", store.oldest(), 6);
        store.end(0, true);
        Check.same("18: one that has ended has none", store.oldest(), 1);
        store.write(1, 0, 1);
        store.end(1, false);
        store.jump(9);
        Check.same("18: a dead version's birth", store.oldest(), 10);
        store.clean(0);
        Check.same("18: gone", store.oldest(), 0);
        Steps.put(store, 0, 1);
        store.setFreezing(1);
        store.clean(0);
        Check.same("18: frozen", store.oldest(), 0);
        int remover = store.begin();
        store.delete(remover, 0);
        int reader = store.begin();
        store.end(remover, true);
        store.jump(6);
        Check.same("18: the death of a frozen one", store.oldest(), 8);
        store.end(reader, true);
        Check.same("18: when nobody is active, too", store.oldest(), 8);
        store.clean(0);
        Check.same("18: nothing is left", store.oldest(), 0);
        int taker = store.begin();
        store.end(taker, true);
        Check.same("18: a transaction that wrote nothing", store.oldest(), 0);
    }

    private static void pagesThrow() {
        RowPages store = new RowPages();
        int[] bad = {-1, 4, 64, Integer.MIN_VALUE, Integer.MAX_VALUE};
        for (int page : bad) {
            Check.badArgument("11: page " + page, () -> store.clean(page));
            Check.badArgument("13: page " + page, () -> store.isMapped(page));
            Check.badArgument("14: page " + page, () -> store.isWhole(page));
            Check.badArgument("15: page " + page, () -> store.slot(page, 0));
            Check.badArgument("17: page " + page, () -> store.fullness(page));
        }
        int[] badSlots = {-1, 8, Integer.MIN_VALUE, Integer.MAX_VALUE};
        for (int slot : badSlots) {
            Check.badArgument("15: slot " + slot, () -> store.slot(0, slot));
            Check.badArgument("15: slot " + slot, () -> store.slot(3, slot));
        }
    }
}
