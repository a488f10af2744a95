// Counts the answers that are not as due, and ends the test with 1 if there was one.
final class Checks {
    private static int wrong = 0;
    private static int sentences = 0;
    private static String about = "";

    /** Runs the test of one sentence of the document; every fault in it is told under that sentence. */
    static void sentence(String text, Runnable test) {
        about = text;
        sentences++;
        try {
            test.run();
        } catch (RuntimeException | Error thrown) {
            fault("the test stopped with " + thrown);
        }
    }

    static void due(String call, long got, long want) {
        if (got != want) {
            fault(call + " answered " + got + ", due is " + want);
        }
    }

    static void same(String what, String got, String want) {
        if (!got.equals(want)) {
            fault(what + ": " + got + ", due is " + want);
        }
    }

    static void holds(String what, boolean holds) {
        if (!holds) {
            fault("does not hold: " + what);
        }
    }

    static void end() {
        System.out.println(wrong == 0 ? sentences + " tests, all as due" : wrong + " faults");
        if (wrong != 0) {
            System.exit(1);
        }
    }

    private static void fault(String text) {
        wrong++;
        System.out.println("[" + about + "] " + text);
    }
}
