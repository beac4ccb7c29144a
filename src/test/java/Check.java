import java.util.Objects;

/** Counts tests, and holds the few comparisons that they need. */
final class Check {
    interface Body {
        void run() throws Exception;
    }

    private int passed = 0;
    private int failed = 0;

    void test(String name, Body body) {
        try {
            body.run();
            passed++;
        } catch (Throwable problem) {
            failed++;
            System.out.println("FAILED " + name + ": " + problem);
        }
    }

    int passed() {
        return passed;
    }

    int failed() {
        return failed;
    }

    static void equal(Object due, Object got) {
        if (!Objects.equals(due, got)) {
            throw new AssertionError("due is " + due + ", got " + got);
        }
    }

    /** The calls' answers one after the other, so that a whole row can be compared at once. */
    static void row(int[] got, int... due) {
        equal(java.util.Arrays.toString(due), java.util.Arrays.toString(got));
    }

    /** Exactly this class, not one below it. */
    static void refused(Class<? extends RuntimeException> due, Body body) throws Exception {
        try {
            body.run();
        } catch (RuntimeException got) {
            equal(due, got.getClass());
            return;
        }
        throw new AssertionError("due is " + due.getName() + ", nothing was thrown");
    }

    /** Refused as due, and nothing has changed that the face can tell. */
    static void refusedUnchanged(Class<? extends RuntimeException> due, ReliefNet net, Body body) throws Exception {
        String before = Picture.of(net);
        refused(due, body);
        equal(before, Picture.of(net));
    }

    static void noIndex(ReliefNet net, Body body) throws Exception {
        refusedUnchanged(IndexOutOfBoundsException.class, net, body);
    }

    static void noArgument(ReliefNet net, Body body) throws Exception {
        refusedUnchanged(IllegalArgumentException.class, net, body);
    }

    static void noState(ReliefNet net, Body body) throws Exception {
        refusedUnchanged(IllegalStateException.class, net, body);
    }
}
