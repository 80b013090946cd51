/** Collects answers that are not as due, and ends a test with the exit code that tells it. */
final class Due {
    private static final int MOST_SHOWN = 40;

    private final String test;
    private int asked = 0;
    private int wrong = 0;

    Due(String test) {
        this.test = test;
    }

    /** promise: the number of the promise that would be broken. */
    void is(int promise, String call, long got, long want) {
        asked++;
        if (got != want) {
            fail("promise " + promise + ": " + call + " answered " + got + ", due is " + want);
        }
    }

    void holds(String what, boolean so) {
        asked++;
        if (!so) {
            fail(what);
        }
    }

    private void fail(String words) {
        wrong++;
        if (wrong <= MOST_SHOWN) {
            System.out.println(test + ": " + words);
        }
    }

    boolean anyWrong() {
        return wrong > 0;
    }

    void end() {
        System.out.println(test + ": " + asked + " asked, " + wrong + " wrong");
        if (wrong > 0 || asked == 0) {
            System.exit(1);
        }
    }
}
