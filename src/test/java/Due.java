/** Counts and prints every answer that is not the one that is due. */
final class Due {
    private static final long MOST_MILLISECONDS = 300_000;

    private final String promise;
    private int asked;
    private int wrong;

    Due(String promise) {
        this.promise = promise;
        Thread watch = new Thread(this::watch);
        watch.setDaemon(true);
        watch.start();
    }

    /** A call that never ends is a wrong answer, too. */
    private void watch() {
        try {
            Thread.sleep(MOST_MILLISECONDS);
        } catch (InterruptedException interrupted) {
            return;
        }
        System.out.println(promise + ": a call does not end");
        System.exit(1);
    }

    void is(String call, long got, long want) {
        asked++;
        if (got != want) {
            wrong++;
            System.out.println(promise + ": " + call + " answered " + got + ", due is " + want);
        }
    }

    void is(String call, boolean got, boolean want) {
        is(call, got ? 1 : 0, want ? 1 : 0);
    }

    void is(String call, String got, String want) {
        asked++;
        if (!got.equals(want)) {
            wrong++;
            System.out.println(promise + ": " + call + " gave [" + got + "], due is [" + want + "]");
        }
    }

    /** Ends the test: exit code 1 if there was a wrong answer, or none at all was asked for. */
    void finish() {
        System.out.println(promise + ": " + asked + " answers, " + wrong + " wrong");
        if (wrong != 0 || asked == 0) {
            System.exit(1);
        }
    }
}
