/** Collects the answers that are not the ones that are due. */
final class Due {
    private static final long PATIENCE_MILLIS = 300_000;

    private int wrong = 0;
    private int seen = 0;

    /** A call that never ends must make the test fail, not wait for ever. */
    Due() {
        Thread watch = new Thread(() -> {
            try {
                Thread.sleep(PATIENCE_MILLIS);
            } catch (InterruptedException e) {
                return;
            }
            System.out.println("the test did not come to an end");
            Runtime.getRuntime().halt(1);
        });
        watch.setDaemon(true);
        watch.start();
    }

    void same(String call, long got, long want) {
        seen++;
        if (got != want) {
            wrong++;
            System.out.println(call + " answered " + got + ", due is " + want);
        }
    }

    void same(String call, boolean got, boolean want) {
        same(call, got ? 1L : 0L, want ? 1L : 0L);
    }

    void thrown(String call, RuntimeException e) {
        seen++;
        wrong++;
        System.out.println(call + " threw " + e);
    }

    int wrong() {
        return wrong;
    }

    void end() {
        System.out.println(wrong == 0 ? "all " + seen + " answers are as due"
                : wrong + " of " + seen + " answers are not as due");
        if (wrong != 0 || seen == 0) {
            System.exit(1);
        }
    }
}
