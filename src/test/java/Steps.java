/** Steps that many tests begin with. */
final class Steps {
    private Steps() {
    }

    /** Writes one key in a transaction of its own that commits. */
    static int put(RowPages store, int key, int value) {
        int transaction = store.begin();
        int answer = store.write(transaction, key, value);
        store.end(transaction, true);
        return answer;
    }

    /** Deletes one key in a transaction of its own that commits. */
    static void remove(RowPages store, int key) {
        int transaction = store.begin();
        store.delete(transaction, key);
        store.end(transaction, true);
    }

    /** What a transaction reads that begins now and ends at once. */
    static int look(RowPages store, int key) {
        int transaction = store.begin();
        int value = store.read(transaction, key);
        store.end(transaction, true);
        return value;
    }

    static void write(RowPages store, int transaction, int key, int times) {
        for (int time = 0; time < times; time++) {
            store.write(transaction, key, time);
        }
    }

    /** Inserts one key in a transaction of its own that is taken back. */
    static void putAndTakeBack(RowPages store, int key, int value) {
        int transaction = store.begin();
        store.write(transaction, key, value);
        store.end(transaction, false);
    }

    /** Both ways to read tell the same. */
    static void reads(String what, RowPages store, int transaction, int key, int due) {
        Check.same("read: " + what, store.read(transaction, key), due);
        Check.same("readPlain: " + what, store.readPlain(transaction, key), due);
    }

    static void jump(RowPages store, int... jumps) {
        for (int stamps : jumps) {
            store.jump(stamps);
        }
    }

    /** All that can be asked of an object without a transaction, as one text. */
    static String picture(RowPages store) {
        StringBuilder text = new StringBuilder();
        for (int page = 0; page < 4; page++) {
            for (int slot = 0; slot < 8; slot++) {
                text.append(store.slot(page, slot)).append(' ');
            }
            text.append(store.isMapped(page) ? "mapped " : "").append(store.isWhole(page) ? "whole " : "");
            text.append(store.fullness(page)).append("; ");
        }
        for (int key = 0; key < 6; key++) {
            text.append(store.entries(key)).append(' ');
        }
        return text.append(store.oldest()).toString();
    }
}
