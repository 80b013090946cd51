/** Collects answers that are not as due, and ends a test with the exit code that tells it. */
final class Due {
    private static final int MOST_SHOWN = 40;

    private final String test;
    private int asked = 0;
    private int wrong = 0;
    private int sentences = 0;
    private String sentence = "";

    Due(String test) {
        this.test = test;
    }

    /** promise: the number of the promise that would be broken. */
    void is(int promise, String call, long got, long want) {
        asked++;
        if (got != want) {
            fail("promise " + promise + ": " + call + " answered " + got + ", due is " + want);
        }
    }

    /** What is asked by asked() from here on would break these words of the document (0: of no promise alone). */
    void sentence(int promise, String words) {
        sentences++;
        sentence = (promise == 0 ? "all promises" : "promise " + promise) + ", \"" + words + "\": ";
    }

    void asked(String call, long got, long want) {
        asked++;
        if (got != want) {
            fail(sentence + call + " answered " + got + ", due is " + want);
        }
    }

    void unchanged(String call, String got, String want) {
        asked++;
        if (!got.equals(want)) {
            fail(sentence + call + " changed something: " + got + ", without it " + want);
        }
    }

    void holds(String what, boolean so) {
        asked++;
        if (!so) {
            fail(what);
        }
    }

    private void fail(String words) {
        wrong++;
        if (wrong <= MOST_SHOWN) {
            System.out.println(test + ": " + words);
        }
    }

    boolean anyWrong() {
        return wrong > 0;
    }

    void end() {
        String of = sentences == 0 ? "" : " of " + sentences + " sentences";
        System.out.println(test + ": " + asked + " asked" + of + ", " + wrong + " wrong");
        if (wrong > 0 || asked == 0) {
            System.exit(1);
        }
    }
}
