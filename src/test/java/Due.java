/** Collects the answers that are not the ones that are due. */
final class Due {
    private int wrong = 0;
    private int seen = 0;

    void same(String call, long got, long want) {
        seen++;
        if (got != want) {
            wrong++;
            System.out.println(call + " answered " + got + ", due is " + want);
        }
    }

    void same(String call, boolean got, boolean want) {
        same(call, got ? 1L : 0L, want ? 1L : 0L);
    }

    int wrong() {
        return wrong;
    }

    void end() {
        System.out.println(wrong == 0 ? "all " + seen + " answers are as due"
                : wrong + " of " + seen + " answers are not as due");
        if (wrong != 0 || seen == 0) {
            System.exit(1);
        }
    }
}
