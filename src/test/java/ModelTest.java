/** Compares every answer of long fixed runs with a plain model over Java lists. */
public final class ModelTest {
    private static final int RUNS = 3000;
    private static final int CALLS = 512;
    private static final Due DUE = new Due();

    // A fixed sequence of our own, so that every run of the test is the same.
    private static long seed = 20261115L;

    public static void main(String[] args) {
        for (int run = 0; run < RUNS && DUE.wrong() < 20; run++) {
            WeaveStore store = new WeaveStore();
            Model model = new Model();
            // Runs differ in how often a draft is closed, so that some meet the
            // limit of lines and others the limit of versions.
            int closing = 1 + run % 12;
            for (int call = 0; call < CALLS && DUE.wrong() < 20; call++) {
                step(store, model, closing, "run " + run + " call " + call + ": ");
            }
        }
        DUE.end();
    }

    private static int below(int bound) {
        seed = seed * 6364136223846793005L + 1442695040888963407L;
        return (int) ((seed >>> 33) % bound);
    }

    /** Mostly 0 .. bound, at times outside of it. */
    private static int around(int bound) {
        switch (below(40)) {
            case 0: return -1;
            case 1: return bound + 1;
            case 2: return Integer.MIN_VALUE;
            case 3: return Integer.MAX_VALUE;
            default: return below(bound + 1);
        }
    }

    private static void step(WeaveStore x, Model m, int closing, String at) {
        int v = around(m.texts.size());
        int w = around(m.texts.size());
        int i = around(m.draft == null ? 12 : m.draft.size());
        switch (below(10)) {
            case 0: case 1: case 2: case 3:
                int content = around(99);
                DUE.same(at + "put(" + i + ", " + content + ")", x.put(i, content), m.put(i, content));
                break;
            case 4:
                DUE.same(at + "cut(" + i + ")", x.cut(i), m.cut(i));
                break;
            case 5:
                turn(x, m, v, closing, at);
                break;
            default:
                ask(x, m, v, w, at);
        }
    }

    private static void turn(WeaveStore x, Model m, int v, int closing, String at) {
        if (m.draft == null && below(4) != 0) {
            DUE.same(at + "open(" + v + ")", x.open(v), m.open(v));
        } else if (below(12) < closing) {
            DUE.same(at + "close()", x.close(), m.close());
        } else if (below(2) == 0) {
            DUE.same(at + "discard()", x.discard(), m.discard());
        } else {
            DUE.same(at + "open(" + v + ")", x.open(v), m.open(v));
        }
    }

    private static void ask(WeaveStore x, Model m, int v, int w, String at) {
        int i = around(below(2) == 0 ? 3 : 12);
        String place = "(" + v + ", " + i + ")";
        switch (below(10)) {
            case 0: DUE.same(at + "versions()", x.versions(), m.texts.size()); break;
            case 1: DUE.same(at + "length(" + v + ")", x.length(v), m.length(v)); break;
            case 2: DUE.same(at + "line" + place, x.line(v, i), m.line(v, i)); break;
            case 3: DUE.same(at + "origin" + place, x.origin(v, i), m.origin(v, i)); break;
            case 4: DUE.same(at + "base(" + v + ")", x.base(v), m.base(v)); break;
            case 5: DUE.same(at + "ancestors(" + v + ")", x.ancestors(v), m.ancestors(v)); break;
            case 6: DUE.same(at + "shared(" + v + ", " + w + ")", x.shared(v, w), m.shared(v, w)); break;
            case 7: DUE.same(at + "placeIn" + place + " in " + w, x.placeIn(v, i, w), m.placeIn(v, i, w)); break;
            case 8: DUE.same(at + "having" + place, x.having(v, i), m.having(v, i)); break;
            default:
                int what = around(2);
                DUE.same(at + "draft(" + what + ")", x.draft(what), m.draft(what));
        }
    }
}
