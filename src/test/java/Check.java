/** Counts the answers of a test that are not as due, prints them, and ends the test. */
final class Check {
    /** A call that may throw. */
    interface Call {
        void run();
    }

    private static final int SHOWN = 50;

    private final String name;
    private String sentence = "";
    private int wrong;

    Check(String name) {
        this.name = name;
    }

    /** A test of its own for words of the document: what is wrong in it is told with them. */
    void of(String words, Call test) {
        sentence = "\"" + words + "\": ";
        due("the test throws", thrown(test), "nothing");
        sentence = "";
    }

    void due(String call, long got, long want) {
        if (got != want) {
            report(call + " answered " + got + ", due is " + want);
        }
    }

    void due(String call, boolean got, boolean want) {
        if (got != want) {
            report(call + " answered " + got + ", due is " + want);
        }
    }

    void argument(String call, Call body) {
        due(call + " throws", thrown(body), "IllegalArgumentException");
    }

    void state(String call, Call body) {
        due(call + " throws", thrown(body), "IllegalStateException");
    }

    void due(String call, String got, String want) {
        if (!got.equals(want)) {
            report(call + " answered " + got + ", due is " + want);
        }
    }

    /** The name of what a call throws, or "nothing". */
    static String thrown(Call body) {
        try {
            body.run();
            return "nothing";
        } catch (RuntimeException e) {
            return e.getClass().getSimpleName();
        }
    }

    boolean isClean() {
        return wrong == 0;
    }

    /** Ends the program with exit code 1 if an answer was wrong. */
    void end() {
        System.out.println(name + (wrong == 0 ? ": all answers are as due" : ": " + wrong + " answers are not as due"));
        if (wrong != 0) {
            System.exit(1);
        }
    }

    private void report(String text) {
        wrong++;
        if (wrong <= SHOWN) {
            System.out.println(name + ": " + sentence + text);
        }
    }
}
