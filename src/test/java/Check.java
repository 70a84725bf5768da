import java.util.NoSuchElementException;

/** Counts the answers that are not as due, and ends the test with exit code 1 if there was one. */
final class Check {
    private static int wrong;
    private static int seen;

    private Check() {
    }

    static void due(String call, int want, int got) {
        seen++;
        if (want != got) {
            tell(call + " answered " + got + ", due is " + want);
        }
    }

    static void due(String call, boolean want, boolean got) {
        seen++;
        if (want != got) {
            tell(call + " answered " + got + ", due is " + want);
        }
    }

    static void badArgument(String call, Runnable run) {
        refused(call, IllegalArgumentException.class, run);
    }

    static void badState(String call, Runnable run) {
        refused(call, IllegalStateException.class, run);
    }

    static void noneSuch(String call, Runnable run) {
        refused(call, NoSuchElementException.class, run);
    }

    static void end() {
        System.out.println(seen + " answers looked at, " + wrong + " not as due");
        if (seen == 0 || wrong != 0) {
            System.exit(1);
        }
    }

    private static void refused(String call, Class<?> want, Runnable run) {
        seen++;
        Class<?> got = null;
        try {
            run.run();
        } catch (RuntimeException e) {
            got = e.getClass();
        }
        if (got != want) {
            tell(call + " threw " + got + ", due is " + want);
        }
    }

    private static void tell(String text) {
        wrong++;
        System.out.println(text);
    }
}
