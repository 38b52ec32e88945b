/** What is due and what was answered, told under the sentence of the document that it is about. */
final class Report {
    private static String about = "";
    private static int sentences;
    private static int wrong;

    private Report() {
    }

    /** Whatever the test throws is told as well: no call of the document may throw. */
    static void sentence(String words, Runnable test) {
        about = words;
        sentences++;
        try {
            test.run();
        } catch (RuntimeException | StackOverflowError e) {
            must("no throw, but " + e + " at " + e.getStackTrace()[0], false);
        }
    }

    static void due(String what, int got, int want) {
        must(what + " answered " + got + ", due is " + want, got == want);
    }

    static void must(String what, boolean holds) {
        if (!holds) {
            wrong++;
            System.out.println("[" + about + "] " + what);
        }
    }

    static void dueRun(Trial x, int p, int backwards, int ending, int steps) {
        String run = "run(" + p + ", " + backwards + ")";
        due(run, x.run(p, backwards), ending);
        due("outcome after " + run, x.outcome(), ending);
        due("steps after " + run, x.steps(), steps);
    }

    /** Registers that aren't named are due to be 0. */
    static void dueRegisters(Trial x, int... values) {
        for (int r = 0; r < 6; r++) {
            due("look(" + r + ")", x.look(r), r < values.length ? values[r] : 0);
        }
    }

    static void duePile(Trial x, int... fromTop) {
        due("pile()", x.pile(), fromTop.length);
        for (int i = 0; i <= 12; i++) {
            due("onPile(" + i + ")", x.onPile(i), i < fromTop.length ? fromTop[i] : 0);
        }
    }

    static void end() {
        System.out.println(sentences + " tests of sentences, " + wrong + " answers not as due");
        if (wrong != 0) {
            System.exit(1);
        }
    }
}
