import java.util.function.IntConsumer;

/** Counts what is as due and what is not, and tells it by the exit code. */
final class Check {
    private static int right = 0;
    private static int wrong = 0;

    private Check() {
    }

    static void same(String what, long got, long due) {
        tell(what, got == due, got, due);
    }

    static void same(String what, boolean got, boolean due) {
        tell(what, got == due, got, due);
    }

    static void same(String what, float got, float due) {
        tell(what, got == due, got, due);
    }

    static void same(String what, String got, String due) {
        tell(what, got.equals(due), got, due);
    }

    static void fails(String what, Class<? extends RuntimeException> due, Runnable call) {
        String got = "nothing";
        try {
            call.run();
        } catch (RuntimeException thrown) {
            got = thrown.getClass().getSimpleName();
        }
        same(what + " throws", got, due.getSimpleName());
    }

    static void noTransaction(String what, Runnable call) {
        fails(what, IndexOutOfBoundsException.class, call);
    }

    static void badArgument(String what, Runnable call) {
        fails(what, IllegalArgumentException.class, call);
    }

    static void badState(String what, Runnable call) {
        fails(what, IllegalStateException.class, call);
    }

    /** A call with numbers that no transaction has, where so many have begun. */
    static void noTransactions(String what, int begun, IntConsumer call) {
        for (int number : new int[] {-1, begun, 60, 64, Integer.MIN_VALUE, Integer.MAX_VALUE}) {
            noTransaction(what + " of transaction " + number, () -> call.accept(number));
        }
    }

    /** A call with an argument ahead of the range and behind it, next to it and far away. */
    static void badArguments(String what, int least, int greatest, IntConsumer call) {
        for (int argument : new int[] {least - 1, greatest + 1, Integer.MIN_VALUE, Integer.MAX_VALUE}) {
            badArgument(what + " of " + argument, () -> call.accept(argument));
        }
    }

    static boolean isAllRight() {
        return wrong == 0;
    }

    private static void tell(String what, boolean isRight, Object got, Object due) {
        if (isRight) {
            right++;
        } else {
            wrong++;
            System.out.println(what + ": got " + got + ", due is " + due);
        }
    }

    static void finish() {
        System.out.println(right + " checks right, " + wrong + " wrong");
        if (wrong > 0 || right == 0) {
            System.exit(1);
        }
    }
}
