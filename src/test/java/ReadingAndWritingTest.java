/** Promises 7 to 10. */
final class ReadingAndWritingTest {
    private ReadingAndWritingTest() {
    }

    public static void main(String[] args) {
        readsOwn();
        readsBySnapshot();
        readsOverPages();
        readsFrozen();
        readsWithStampsUsedAgain();
        readThrows();
        plainAfterCleaning();
        writeInserts();
        writeChanges();
        writeInPlaceOfDead();
        writeToAnotherPage();
        writeToLowerPage();
        writeKeepsDeadNextWhenPageIsFull();
        writeRefused();
        writeWithoutRoom();
        writeThrows();
        deletes();
        deleteRefused();
        deleteThrows();
        throwingChangesNothing();
        manyVersions();
        callsBeyondTheLast();
        Check.finish();
    }

    private static void reads(String what, RowPages store, int transaction, int key, int due) {
        Check.same("7: " + what, store.read(transaction, key), due);
        Check.same("8: " + what, store.readPlain(transaction, key), due);
    }

    private static void readsOwn() {
        RowPages store = new RowPages();
        int own = store.begin();
        reads("nothing yet", store, own, 0, -1);
        store.write(own, 0, 0);
        reads("an own one, 0", store, own, 0, 0);
        store.write(own, 0, 9999);
        reads("an own change", store, own, 0, 9999);
        reads("no other key", store, own, 5, -1);
        store.delete(own, 0);
        reads("an own deletion", store, own, 0, -1);
        store.write(own, 0, 3);
        reads("an own one again", store, own, 0, 3);
    }

    private static void readsBySnapshot() {
        RowPages store = new RowPages();
        int writer = store.begin();
        store.write(writer, 1, 10);
        int early = store.begin();
        reads("not of an active one", store, early, 1, -1);
        store.end(writer, true);
        reads("not of one that committed later", store, early, 1, -1);
        int late = store.begin();
        reads("of one that had committed", store, late, 1, 10);
        int changer = store.begin();
        store.write(changer, 1, 11);
        reads("the old one, while the changer is active", store, late, 1, 10);
        store.end(changer, true);
        reads("the old one, when it has committed later", store, late, 1, 10);
        int last = store.begin();
        reads("the new one", store, last, 1, 11);
        int remover = store.begin();
        store.delete(remover, 1);
        reads("still there", store, last, 1, 11);
        store.end(remover, true);
        reads("still there after a later commit", store, last, 1, 11);
        reads("the first one still", store, late, 1, 10);
        int after = store.begin();
        reads("gone", store, after, 1, -1);
        int back = store.begin();
        store.write(back, 1, 12);
        store.end(back, false);
        int end = store.begin();
        reads("nothing of one taken back", store, end, 1, -1);
    }

    private static void readsOverPages() {
        RowPages store = new RowPages();
        int own = store.begin();
        Steps.write(store, own, 2, 20);
        Check.same("7: three chains", store.entries(2), 3);
        reads("the last of three chains", store, own, 2, 19);
        store.end(own, true);
        int reader = store.begin();
        reads("by another one", store, reader, 2, 19);
        int changer = store.begin();
        store.write(changer, 2, 500);
        store.end(changer, true);
        reads("the middle of the latest chain", store, reader, 2, 19);
    }

    private static void readsFrozen() {
        RowPages store = new RowPages();
        store.setFreezing(1);
        Steps.put(store, 0, 7);
        store.clean(0);
        Check.same("7: frozen", store.slot(0, 0), 10);
        for (int time = 0; time < 5; time++) {
            store.jump(20);
            Check.same("7: a frozen one however far stamps go", Steps.look(store, 0), 7);
        }
        int reader = store.begin();
        Steps.remove(store, 0);
        reads("a frozen one with a later death", store, reader, 0, 7);
        Check.same("7: a frozen one that was deleted", Steps.look(store, 0), -1);
    }

    private static void readsWithStampsUsedAgain() {
        RowPages store = new RowPages();
        store.setFreezing(1);
        Steps.put(store, 0, 1);
        store.clean(0);
        store.jump(20);
        store.jump(20);
        store.jump(20);
        store.jump(3);
        int writer = store.begin();
        Check.same("7: the stamp is used again", store.stamp(writer), store.stamp(0));
        store.write(writer, 1, 2);
        int reader = store.begin();
        reads("stamps alike, transactions not", store, reader, 1, -1);
        reads("the old one with that stamp", store, reader, 0, 1);
    }

    private static void readThrows() {
        RowPages store = new RowPages();
        Check.noTransaction("7: none", () -> store.read(0, 0));
        Check.noTransaction("8: none", () -> store.readPlain(0, 0));
        store.begin();
        store.begin();
        store.end(1, true);
        Check.noTransaction("7: -1 and a bad key", () -> store.read(-1, 6));
        Check.noTransaction("8: -1 and a bad key", () -> store.readPlain(-1, 6));
        Check.noTransaction("7: 2", () -> store.read(2, 0));
        Check.noTransaction("8: 2", () -> store.readPlain(2, 0));
        Check.badArgument("7: key 6", () -> store.read(0, 6));
        Check.badArgument("8: key 6", () -> store.readPlain(0, 6));
        Check.badArgument("7: key -1, ended", () -> store.read(1, -1));
        Check.badArgument("8: key -1, ended", () -> store.readPlain(1, -1));
        Check.badState("7: ended", () -> store.read(1, 0));
        Check.badState("8: ended", () -> store.readPlain(1, 5));
        Check.same("7: key 5", store.read(0, 5), -1);
        Check.same("8: key 5", store.readPlain(0, 5), -1);
    }

    private static void plainAfterCleaning() {
        RowPages store = new RowPages();
        Steps.put(store, 0, 1);
        Steps.put(store, 0, 2);
        store.clean(0);
        int own = store.begin();
        reads("what was cleaned away", store, own, 0, 2);
        store.write(own, 0, 3);
        store.end(own, false);
        int other = store.begin();
        reads("a death taken off behind cleaning", store, other, 0, 2);
    }

    private static void writeInserts() {
        RowPages store = new RowPages();
        int own = store.begin();
        Check.same("9: the lowest slot", store.write(own, 3, 0), 0);
        Check.same("9: the next slot", store.write(own, 4, 9999), 1);
        Check.same("9: an entry", store.entries(3), 1);
        Check.same("9: the key", store.slot(0, 1), 4);
        store.end(own, false);
        int other = store.begin();
        Check.same("9: behind dead ones", store.write(other, 3, 1), 2);
        Check.same("9: the dead one has its entry still", store.entries(3), 2);
        store.clean(0);
        Check.same("9: the lowest free slot", store.write(other, 5, 1), 0);
        Check.same("9: the one behind it", store.write(other, 0, 1), 1);
        Check.same("9: over the used one", store.write(other, 1, 1), 3);
    }

    private static void writeChanges() {
        RowPages store = new RowPages();
        Steps.put(store, 0, 1);
        int own = store.begin();
        Check.same("9: the next one of the old one", store.write(own, 0, 2), 100001);
        Check.same("9: the old one has a death and a next", store.slot(0, 0), 220);
        Check.same("9: an own one can be changed", store.write(own, 0, 2), 100002);
        Check.same("9: the chain goes on", store.slot(0, 1), 320);
        Check.same("9: one entry", store.entries(0), 1);
        store.delete(own, 0);
        Check.same("9: inserted again", store.write(own, 0, 4), 3);
        Check.same("9: with an entry", store.entries(0), 2);
    }

    private static void writeInPlaceOfDead() {
        RowPages store = new RowPages();
        Steps.put(store, 0, 1);
        int back = store.begin();
        store.write(back, 0, 2);
        store.write(back, 0, 3);
        store.end(back, false);
        int own = store.begin();
        Check.same("9: in place of one taken back", store.write(own, 0, 4), 100003);
        Check.same("9: the old one's next", store.slot(0, 0), 420);
        Check.same("9: the dead one keeps its slot and next", store.slot(0, 1), 300);
        store.end(own, true);
        Check.same("9: no entry more", store.entries(0), 1);
        Check.same("9: the new one is read", Steps.look(store, 0), 4);
    }

    private static void writeToAnotherPage() {
        RowPages store = new RowPages();
        int own = store.begin();
        Steps.write(store, own, 0, 8);
        Check.same("9: the page is full", store.write(own, 0, 8), 1000);
        Check.same("9: the old one has no next", store.slot(0, 7), 20);
        Check.same("9: a new entry", store.entries(0), 2);
        Check.same("9: in the page of the old one", store.write(own, 0, 9), 101001);
        store.write(own, 1, 1);
        Check.same("9: the key behind it", store.slot(1, 2), 1);
        store.end(own, true);
        store.clean(0);
        int other = store.begin();
        Check.same("9: not in the lower page", store.write(other, 0, 10), 101003);
        Check.same("9: inserting goes to the lowest page", store.write(other, 2, 1), 0);
    }

    private static void writeToLowerPage() {
        RowPages store = new RowPages();
        int own = store.begin();
        Steps.write(store, own, 0, 16);
        store.end(own, true);
        store.clean(0);
        int other = store.begin();
        Check.same("9: the old one's page is full, a lower one is not", store.write(other, 0, 50), 0);
        Check.same("9: with a new entry", store.entries(0), 2);
        Check.same("9: and no next", store.slot(1, 7), 20);
        reads("from there", store, other, 0, 50);
    }

    private static void writeKeepsDeadNextWhenPageIsFull() {
        RowPages store = new RowPages();
        Steps.put(store, 0, 1);
        int back = store.begin();
        store.write(back, 0, 2);
        store.end(back, false);
        int filler = store.begin();
        Steps.write(store, filler, 1, 6);
        store.end(filler, true);
        int own = store.begin();
        Check.same("9: to another page", store.write(own, 0, 3), 1000);
        Check.same("9: the dead one is next still", store.slot(0, 0), 220);
        Check.same("9: the new one has an entry", store.entries(0), 2);
        Check.same("7: it is read", store.read(own, 0), 3);
        store.end(own, false);
        Check.same("7: the old one is read again", Steps.look(store, 0), 1);
        store.clean(0);
        int last = store.begin();
        Check.same("9: back in its page", store.write(last, 0, 4), 100001);
        Check.same("9: with its next", store.slot(0, 0), 220);
    }

    private static void writeRefused() {
        RowPages store = new RowPages();
        Steps.put(store, 0, 1);
        int one = store.begin();
        int other = store.begin();
        store.write(one, 1, 1);
        Check.badState("9: a birth of an active one", () -> store.write(other, 1, 2));
        store.end(one, true);
        Check.badState("9: of one that committed since", () -> store.write(other, 1, 2));
        int third = store.begin();
        Check.same("9: not of one that had committed", store.write(third, 1, 2), 100002);
        store.end(third, false);
        int fourth = store.begin();
        store.delete(fourth, 0);
        Check.badState("9: a death of an active one", () -> store.write(other, 0, 2));
        Check.same("9: not its own", store.write(fourth, 0, 2), 3);
        store.end(fourth, false);
        Check.same("9: not of one taken back", store.write(other, 0, 2), 100004);
        store.end(other, true);
        int fifth = store.begin();
        int sixth = store.begin();
        store.delete(fifth, 0);
        store.end(fifth, true);
        Check.badState("9: a death of one that committed since", () -> store.write(sixth, 0, 2));
        Check.same("9: other keys are free", store.write(sixth, 2, 2), 5);
        int seventh = store.begin();
        Check.same("9: a death of one that had committed", store.write(seventh, 0, 3), 6);
    }

    private static void writeWithoutRoom() {
        RowPages store = new RowPages();
        int own = store.begin();
        Steps.write(store, own, 0, 31);
        Check.same("9: the last slot", store.write(own, 0, 77), 103007);
        String before = Steps.picture(store);
        Check.badState("9: no slot to change", () -> store.write(own, 0, 78));
        Check.badState("9: no slot to insert", () -> store.write(own, 1, 78));
        Check.same("9: nothing has changed", Steps.picture(store), before);
        Check.same("9: the value stands", store.read(own, 0), 77);
        Check.same("9: the plain value stands", store.readPlain(own, 0), 77);
        Check.same("10: deleting needs no slot", store.delete(own, 0), true);
        store.end(own, true);
        store.clean(2);
        int other = store.begin();
        Check.same("9: the lowest page with a free slot", store.write(other, 1, 1), 2000);
    }

    private static void writeThrows() {
        RowPages store = new RowPages();
        store.begin();
        store.begin();
        store.end(1, false);
        Check.noTransaction("9: 2 and all else bad", () -> store.write(2, 6, -1));
        Check.noTransaction("9: -1", () -> store.write(-1, 0, 0));
        Check.badArgument("9: key 6", () -> store.write(0, 6, 0));
        Check.badArgument("9: key -1", () -> store.write(0, -1, 0));
        Check.badArgument("9: value -1", () -> store.write(0, 0, -1));
        Check.badArgument("9: value 10000", () -> store.write(0, 0, 10000));
        Check.badArgument("9: value greatest", () -> store.write(0, 0, Integer.MAX_VALUE));
        Check.badArgument("9: the argument before the state", () -> store.write(1, 0, 10000));
        Check.badState("9: ended", () -> store.write(1, 0, 0));
        Check.same("9: nothing was written", store.fullness(0), 0f);
    }

    private static void deletes() {
        RowPages store = new RowPages();
        Steps.put(store, 0, 1);
        int own = store.begin();
        Check.same("10: it saw none", store.delete(own, 1), false);
        Check.same("10: it saw it", store.delete(own, 0), true);
        Check.same("10: a death", store.slot(0, 0), 20);
        Check.same("10: it sees it no more", store.delete(own, 0), false);
        Check.same("10: no entry goes", store.entries(0), 1);
        store.write(own, 0, 2);
        Check.same("10: an own one", store.delete(own, 0), true);
        store.end(own, true);
        Check.same("10: for others too", Steps.look(store, 0), -1);
    }

    private static void deleteRefused() {
        RowPages store = new RowPages();
        Steps.put(store, 0, 1);
        int one = store.begin();
        int other = store.begin();
        store.write(one, 1, 1);
        Check.same("10: not refused if it sees none", store.delete(other, 1), false);
        store.write(one, 0, 2);
        Check.badState("10: refused", () -> store.delete(other, 0));
        Check.same("10: nothing has changed", store.slot(0, 2), 0);
        store.end(one, true);
        Check.badState("10: refused still", () -> store.delete(other, 0));
        Check.same("10: it is read still", store.read(other, 0), 1);
    }

    private static void deleteThrows() {
        RowPages store = new RowPages();
        store.begin();
        store.begin();
        store.end(1, true);
        Check.noTransaction("10: 2 and a bad key", () -> store.delete(2, 6));
        Check.noTransaction("10: -1", () -> store.delete(-1, 0));
        Check.badArgument("10: key 6, ended", () -> store.delete(1, 6));
        Check.badArgument("10: key -1", () -> store.delete(0, -1));
        Check.badState("10: ended", () -> store.delete(1, 0));
    }

    private static void throwingChangesNothing() {
        RowPages store = new RowPages();
        Steps.put(store, 0, 1);
        store.clean(0);
        int one = store.begin();
        int other = store.begin();
        store.write(one, 1, 1);
        store.end(one, false);
        store.clean(0);
        Steps.put(store, 0, 2);
        store.clean(1);
        String before = Steps.picture(store);
        Check.badState("9: refused", () -> store.write(other, 0, 3));
        Check.badState("10: refused", () -> store.delete(other, 0));
        Check.badArgument("9: value", () -> store.write(other, 2, 10000));
        Check.same("nothing has changed", Steps.picture(store), before);
    }

    /** Fills all slots and cleans them again; that is 38 calls. */
    private static void fillAndClean(RowPages store, int key) {
        int own = store.begin();
        Steps.write(store, own, key, 32);
        store.end(own, false);
        for (int page = 0; page < 4; page++) {
            store.clean(page);
        }
    }

    private static void manyVersions() {
        RowPages store = new RowPages();
        store.setFreezing(1);
        Steps.put(store, 5, 1);
        store.clean(0);
        for (int time = 0; time < 12; time++) {
            int own = store.begin();
            Steps.write(store, own, time % 5, 31);
            reads("the latest of many versions", store, own, time % 5, 30);
            store.end(own, false);
            for (int page = 0; page < 4; page++) {
                store.clean(page);
            }
        }
        int last = store.begin();
        store.write(last, 5, 2);
        reads("behind many versions", store, last, 5, 2);
        reads("nothing is left of them", store, last, 1, -1);
    }

    private static void callsBeyondTheLast() {
        RowPages store = new RowPages();
        for (int time = 0; time < 40; time++) {
            fillAndClean(store, time % 6);
        }
        int own = store.begin();
        store.write(own, 0, 1);
        store.readPlain(own, 0);
        store.delete(own, 0);
        Check.same("beyond 512 calls only what is written is thrown", store.end(own, true), 0);
    }
}
