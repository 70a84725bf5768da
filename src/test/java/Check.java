import java.util.NoSuchElementException;
import java.util.function.IntConsumer;

/** Counts the answers that are not as due, and ends the test with exit code 1 if there was one. */
final class Check {
    private static int wrong;
    private static int seen;

    private Check() {
    }

    static void due(String call, int want, int got) {
        seen++;
        if (want != got) {
            tell(call + " answered " + got + ", due is " + want);
        }
    }

    static void due(String call, boolean want, boolean got) {
        seen++;
        if (want != got) {
            tell(call + " answered " + got + ", due is " + want);
        }
    }

    static void badArgument(String call, Runnable run) {
        refused(call, IllegalArgumentException.class, run);
    }

    static void badState(String call, Runnable run) {
        refused(call, IllegalStateException.class, run);
    }

    static void noneSuch(String call, Runnable run) {
        refused(call, NoSuchElementException.class, run);
    }

    /** The last values that are allowed: none of them is refused. */
    static void allowed(String call, int low, int high, IntConsumer run) {
        refused(call + " with " + low, null, () -> run.accept(low));
        refused(call + " with " + high, null, () -> run.accept(high));
    }

    /** The first values that are not allowed, and the farthest ones. */
    static void badArguments(String call, int low, int high, IntConsumer run) {
        for (int value : outside(low, high)) {
            badArgument(call + " with " + value, () -> run.accept(value));
        }
    }

    static void noneSuchOutside(String call, int low, int high, IntConsumer run) {
        for (int value : outside(low, high)) {
            noneSuch(call + " with " + value, () -> run.accept(value));
        }
    }

    /** Those behind 'high' by a power of two would be allowed again if a number were cut to a byte or a short. */
    private static int[] outside(int low, int high) {
        return new int[] {Integer.MIN_VALUE, Integer.MIN_VALUE + low, low - 1, high + 1, 256 + low, 65536 + low,
            Integer.MAX_VALUE};
    }

    static void end() {
        System.out.println(seen + " answers looked at, " + wrong + " not as due");
        if (seen == 0 || wrong != 0) {
            System.exit(1);
        }
    }

    private static void refused(String call, Class<?> want, Runnable run) {
        seen++;
        Class<?> got = null;
        try {
            run.run();
        } catch (RuntimeException e) {
            got = e.getClass();
        }
        if (got != want) {
            tell(call + " threw " + got + ", due is " + want);
        }
    }

    private static void tell(String text) {
        wrong++;
        System.out.println(text);
    }
}
