import java.util.Objects;
import java.util.function.IntConsumer;

/** Counts what is as it is due and tells what is not. */
final class Check {
    static int passed;
    static int failed;

    private Check() {
    }

    static void same(String what, Object got, Object due) {
        if (Objects.equals(got, due)) {
            passed++;
        } else {
            failed++;
            System.out.println(what + " answered " + got + ", due is " + due);
        }
    }

    /** The call throws just that exception, by a throw of the program's own, and nothing has changed. */
    static void refuses(Lullabygate x, String what, Class<?> due, Runnable call) {
        long before = x.digest();
        RuntimeException thrown = null;
        try {
            call.run();
        } catch (RuntimeException e) {
            thrown = e;
        }
        same(what + " throws", thrown == null ? null : thrown.getClass(), due);
        same(what + " throws by itself", thrown != null && isThrownBy(thrown, "Lullabygate"), true);
        same(what + " leaves the digest", x.digest(), before);
    }

    /** Whether that class says throw, and not the machine or the library inside of it. */
    static boolean isThrownBy(Exception e, String className) {
        StackTraceElement[] trace = e.getStackTrace();
        return trace.length > 0 && trace[0].getClassName().equals(className);
    }

    /** The call refuses what is just below and just above that range, and what is far outside. */
    static void outside(Lullabygate x, String what, int least, int most, Class<?> due, IntConsumer call) {
        for (int wrong : new int[] {least - 1, most + 1, Integer.MIN_VALUE, Integer.MAX_VALUE}) {
            refuses(x, what + " of " + wrong, due, () -> call.accept(wrong));
        }
    }

    static void noSuch(Lullabygate x, String what, Runnable call) {
        refuses(x, what, IndexOutOfBoundsException.class, call);
    }

    static void badArgument(Lullabygate x, String what, Runnable call) {
        refuses(x, what, IllegalArgumentException.class, call);
    }

    static void badState(Lullabygate x, String what, Runnable call) {
        refuses(x, what, IllegalStateException.class, call);
    }
}
