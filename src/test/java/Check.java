/** Compares answers with those that are due, and ends a test with the exit code that .ci/run reads. */
final class Check {
    private static int tests = 0;
    private static int wrong = 0;

    private Check() {
    }

    /** A test of its own: its name is told when an answer in it is wrong, and when it throws. */
    static void test(String name, Runnable body) {
        int before = wrong;
        tests++;
        try {
            body.run();
        } catch (RuntimeException | Error thrown) {
            wrong++;
            System.out.println("thrown: " + thrown);
        }
        if (wrong != before) {
            System.out.println("FAILED: " + name);
        }
    }

    static void due(String what, long got, long want) {
        if (got != want) {
            wrong++;
            System.out.println(what + " answered " + got + ", due is " + want);
        }
    }

    static void holds(String what, boolean truth) {
        if (!truth) {
            wrong++;
            System.out.println(what + " does not hold");
        }
    }

    static void refused(String what, long got) {
        due(what, got, -1000000L);
    }

    static void end() {
        String of = tests == 0 ? "" : " (" + tests + " tests)";
        System.out.println((wrong == 0 ? "all answers are as due" : wrong + " answers are not as due") + of);
        System.exit(wrong == 0 ? 0 : 1);
    }
}
