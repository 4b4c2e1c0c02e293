/** All promises: many runs of calls, each answer and the whole state compared with the model's. */
final class ModelTest {
    private static final int RUNS = 1500;
    private static final int CALLS = 300;

    private long seed;
    private RowPages store;
    private Model model;

    private ModelTest() {
    }

    public static void main(String[] args) {
        ModelTest test = new ModelTest();
        for (int run = 0; run < RUNS; run++) {
            test.run(run);
        }
        Check.finish();
    }

    private int pick(int bound) {
        seed = seed * 6364136223846793005L + 1442695040888963407L;
        return (int) ((seed >>> 33) % bound);
    }

    private void run(int run) {
        seed = run * 7919L + 1;
        pick(2);
        store = new RowPages();
        model = new Model();
        int style = pick(6);
        int keys = 1 + pick(6);
        for (int call = 0; call < CALLS; call++) {
            callOne("run " + run + ", call " + call + ": ", style, keys);
        }
    }

    private int key(int keys) {
        return pick(40) == 0 ? pick(10) - 2 : pick(keys);
    }

    private int transaction() {
        if (pick(40) == 0 || model.begun() == 0) {
            return pick(64) - 2;
        }
        int number = pick(model.begun());
        for (int step = 0; step < model.begun() && !model.isActive(number); step++) {
            number = (number + 1) % model.begun();
        }
        return number;
    }

    private void callOne(String where, int style, int keys) {
        int choice = pick(100);
        int transaction = transaction();
        int key = key(keys);
        if (choice < 45) {
            int value = pick(50) == 0 ? pick(3) * 10000 - 10000 : pick(10000);
            compare(where + "write(" + transaction + ", " + key + ", " + value + ")",
                    () -> store.write(transaction, key, value), model.write(transaction, key, value));
        } else if (choice < 53) {
            compare(where + "delete(" + transaction + ", " + key + ")",
                    () -> store.delete(transaction, key) ? 1 : 0, model.delete(transaction, key));
        } else if (choice < 66) {
            compare(where + "begin()", () -> store.begin(), model.begin());
        } else if (choice < 66 + 3 * (1 + style % 3)) {
            boolean commits = pick(4) > style % 4 / 2;
            compare(where + "end(" + transaction + ", " + commits + ")",
                    () -> store.end(transaction, commits), model.end(transaction, commits));
        } else if (choice < 78) {
            int stamps = pick(30) == 0 ? pick(50) - 25 : 1 + pick(style < 3 ? 3 : 20);
            compare(where + "jump(" + stamps + ")", () -> store.jump(stamps), model.jump(stamps));
        } else if (choice < 82) {
            int age = pick(30) == 0 ? pick(60) - 20 : 1 + pick(style % 2 == 0 ? 5 : 27);
            compare(where + "setFreezing(" + age + ")", () -> store.setFreezing(age), model.setFreezing(age));
        } else {
            int page = pick(30) == 0 ? pick(10) - 3 : pick(4);
            compare(where + "clean(" + page + ")", () -> store.clean(page), model.clean(page));
        }
        compareState(where);
    }

    private void compareState(String where) {
        for (int page = 0; page < 4; page++) {
            for (int slot = 0; slot < 8; slot++) {
                Check.same(where + "slot", store.slot(page, slot), model.slot(page, slot));
            }
            Check.same(where + "isMapped", store.isMapped(page), model.isMapped(page));
            Check.same(where + "isWhole", store.isWhole(page), model.isWhole(page));
            Check.same(where + "fullness", store.fullness(page), model.fullness(page));
        }
        for (int key = 0; key < 6; key++) {
            Check.same(where + "entries", store.entries(key), model.entries(key));
        }
        Check.same(where + "oldest", store.oldest(), model.oldest());
        for (int number = 0; number < model.begun(); number++) {
            Check.same(where + "stamp", store.stamp(number), model.stamp(number));
            for (int key = 0; key < 6 && model.isActive(number); key++) {
                int value = model.read(number, key);
                Check.same(where + "the model's two ways", model.readPlain(number, key), value);
                Check.same(where + "read", store.read(number, key), value);
                Check.same(where + "readPlain", store.readPlain(number, key), value);
            }
        }
    }

    private interface Call {
        int answer();
    }

    private static void compare(String what, Call call, int due) {
        int got;
        try {
            got = call.answer();
        } catch (IndexOutOfBoundsException thrown) {
            got = Model.NO_TRANSACTION;
            isExactly(what, thrown, IndexOutOfBoundsException.class);
        } catch (IllegalArgumentException thrown) {
            got = Model.BAD_ARGUMENT;
            isExactly(what, thrown, IllegalArgumentException.class);
        } catch (IllegalStateException thrown) {
            got = Model.BAD_STATE;
            isExactly(what, thrown, IllegalStateException.class);
        }
        Check.same(what, got, due);
    }

    private static void isExactly(String what, RuntimeException thrown, Class<?> due) {
        Check.same(what + " throws", thrown.getClass().getName(), due.getName());
    }
}
