/** Counts the answers that are not the ones due, and ends a test with exit code 1 if there was one. */
final class Due {
    private static int wrong = 0;
    private static String sentence = "";

    private Due() {
    }

    /** The sentence of the document that the next answers follow from; it is told with each wrong one. */
    static void says(String quoted) {
        sentence = "[" + quoted + "] ";
    }

    /** Runs each test; one that throws is told, and the ones behind it run all the same. */
    static void each(Runnable... tests) {
        for (Runnable test : tests) {
            try {
                test.run();
            } catch (RuntimeException thrown) {
                tell("a call threw " + thrown);
            }
        }
    }

    static void is(String call, long got, long want) {
        if (got != want) {
            tell(call + " answered " + got + ", due is " + want);
        }
    }

    static void same(String what, String got, String want) {
        if (!got.equals(want)) {
            tell(what + ": " + got + ", due is " + want);
        }
    }

    static void holds(String what, boolean so) {
        if (!so) {
            tell("does not hold: " + what);
        }
    }

    static void end() {
        if (wrong != 0) {
            System.out.println(wrong + " answers are not as due");
            System.exit(1);
        }
    }

    private static void tell(String what) {
        wrong++;
        System.out.println(sentence + what);
    }
}
