/** The draws of the document, and the numbers x from which on given draws come. */
final class Draws {
    private static final int RANGE = 1000003;

    private Draws() {
    }

    static int next(int x) {
        return (int) ((1103L * x + 12345) % RANGE);
    }

    /** The x behind so many draws. */
    static int after(int x, int draws) {
        int last = x;
        for (int count = 0; count < draws; count++) {
            last = next(last);
        }
        return last;
    }

    /** The least x from which on exactly these draws come. */
    static int exactly(int... draws) {
        for (int x = 0; x < RANGE; x++) {
            int count = 0;
            for (int last = next(x); count < draws.length && last % 100 == draws[count]; last = next(last)) {
                count++;
            }
            if (count == draws.length) {
                return x;
            }
        }
        throw new AssertionError("these draws never come");
    }

    /** The least x from which on the draws are below a quality, as a + tells, or not, as a - tells. */
    static int around(int quality, String draws) {
        for (int x = 0; x < RANGE; x++) {
            int count = 0;
            int last = next(x);
            while (count < draws.length() && last % 100 < quality == (draws.charAt(count) == '+')) {
                last = next(last);
                count++;
            }
            if (count == draws.length()) {
                return x;
            }
        }
        throw new AssertionError("these draws never come");
    }
}
