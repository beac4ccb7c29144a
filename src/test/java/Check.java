import java.util.Objects;

/** Counts tests, and holds the few comparisons that they need. */
final class Check {
    interface Body {
        void run() throws Exception;
    }

    private int passed = 0;
    private int failed = 0;

    void test(String name, Body body) {
        try {
            body.run();
            passed++;
        } catch (Throwable problem) {
            failed++;
            System.out.println("FAILED " + name + ": " + problem);
        }
    }

    int passed() {
        return passed;
    }

    int failed() {
        return failed;
    }

    static void equal(Object due, Object got) {
        if (!Objects.equals(due, got)) {
            throw new AssertionError("due is " + due + ", got " + got);
        }
    }

    /** The calls' answers one after the other, so that a whole row can be compared at once. */
    static void row(int[] got, int... due) {
        equal(java.util.Arrays.toString(due), java.util.Arrays.toString(got));
    }

    /** Exactly this class, not one below it. */
    static void refused(Class<? extends RuntimeException> due, Body body) throws Exception {
        try {
            body.run();
        } catch (RuntimeException got) {
            equal(due, got.getClass());
            return;
        }
        throw new AssertionError("due is " + due.getName() + ", nothing was thrown");
    }
}
