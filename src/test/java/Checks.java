/** Counts and prints the calls whose answer is not the one that is due. */
final class Checks {
    private static final int PRINTED_AT_MOST = 10;

    private int made;
    private int wrong;
    private int printed;

    /**
     * Runs the test of one sentence of the document, or of one fact told in plain words.
     * A test that checks nothing, or in which a call throws, counts as wrong.
     */
    void holds(String sentence, Runnable test) {
        int madeBefore = made;
        int wrongBefore = wrong;
        printed = 0;
        try {
            test.run();
        } catch (RuntimeException thrown) {
            note("a call", false, thrown.toString(), "not to throw");
        }
        due("whether anything was checked", made > madeBefore, true);
        if (wrong > wrongBefore) {
            System.out.println("DOES NOT HOLD: " + sentence);
        }
    }

    void due(String call, long got, long want) {
        note(call, got == want, Long.toString(got), Long.toString(want));
    }

    void due(String call, boolean got, boolean want) {
        note(call, got == want, Boolean.toString(got), Boolean.toString(want));
    }

    void due(String call, String got, String want) {
        note(call, got.equals(want), got, want);
    }

    boolean allRight() {
        return wrong == 0;
    }

    /** Ends the program: a test without a single check counts as wrong. */
    void finish() {
        System.out.println(made + " checks, " + wrong + " wrong");
        System.exit(wrong == 0 && made > 0 ? 0 : 1);
    }

    private void note(String call, boolean right, String got, String want) {
        made++;
        if (right) {
            return;
        }
        wrong++;
        printed++;
        if (printed <= PRINTED_AT_MOST) {
            System.out.println(call + " answered " + got + ", due is " + want);
        }
    }
}
