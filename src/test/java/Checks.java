/** Counts what is due against what was answered; each check prints one line that .ci/run counts. */
final class Checks {
    private static int failedChecks = 0;
    private static int wrongAnswers = 0;

    private Checks() {
    }

    static void due(String call, long want, long got) {
        if (want != got) {
            wrong(call + " answered " + got + ", due is " + want);
        }
    }

    static void wrong(String what) {
        wrongAnswers++;
        System.out.println("  " + what);
    }

    static void check(String name, Runnable answers) {
        wrongAnswers = 0;
        try {
            answers.run();
        } catch (RuntimeException thrown) {
            wrong("thrown: " + thrown);
        }
        if (wrongAnswers != 0) {
            failedChecks++;
        }
        System.out.println((wrongAnswers == 0 ? "passed " : "FAILED ") + name);
    }

    static void end() {
        if (failedChecks != 0) {
            System.exit(1);
        }
    }
}
