/** What the tests by hand share: how a wrong answer is told, and a few peoples to begin with. */
abstract class Checks {
    protected static final int LEAST = Integer.MIN_VALUE;
    protected static final int GREATEST = Integer.MAX_VALUE;

    protected interface Call {
        long answer();
    }

    /** What is tested just now: it stands ahead of each wrong answer. */
    protected static String tested = "";
    private static int checks;
    private static int wrong;

    /** A sentence of the document, with the checks that fail if it is broken. */
    protected static void says(String sentence, Runnable itsChecks) {
        tested = "\"" + sentence + "\"";
        itsChecks.run();
    }

    protected static void due(long want, long got) {
        checks++;
        if (want != got) {
            tellWrong("answered " + got + ", due is " + want);
        }
    }

    protected static void dueThrow(Class<?> want, Call call) {
        checks++;
        String got;
        try {
            got = "answered " + call.answer();
        } catch (RuntimeException e) {
            if (e.getClass() == want) {
                return;
            }
            got = "threw " + e.getClass().getName();
        }
        tellWrong(got + ", due is a throw of " + want.getName());
    }

    protected static void dueTrue(String what, boolean holds) {
        checks++;
        if (!holds) {
            tellWrong("does not hold: " + what);
        }
    }

    private static void tellWrong(String what) {
        wrong++;
        // 0 is this method, 1 the check, 2 the line of the test.
        int line = new Throwable().getStackTrace()[2].getLineNumber();
        System.out.println(tested + ", line " + line + ": " + what);
    }

    /** Ends the program with exit code 1 if a check was wrong. */
    protected static void tellEnd() {
        System.out.println(checks + " checks, " + wrong + " wrong");
        if (wrong != 0) {
            System.exit(1);
        }
    }

    /** Man 0 born in 0, his son 1 in 40, his son's son 2 in 80: each grade 0 at birth. */
    protected static AgeSets threeInLine() {
        AgeSets x = new AgeSets();
        x.man(0, 0, 0);
        x.son(0, 40, 40);
        x.son(1, 80, 80);
        return x;
    }

    /** Men of half 0, born in year 0. */
    protected static AgeSets withMen(int n) {
        AgeSets x = new AgeSets();
        for (int i = 0; i < n; i++) {
            x.man(0, 0, 0);
        }
        return x;
    }
}
