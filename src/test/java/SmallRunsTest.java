import java.util.ArrayList;
import java.util.List;

/** Every short run of changing calls, not chosen ones alone: all answers then are the model's. */
public final class SmallRunsTest {
    private static final int LONGEST = 9;
    private static final Due DUE = new Due();

    // Two puts of one content and one of another, so that lines are told apart by more than their content.
    private static final List<Call> CHANGES =
            Call.list("open(0) open(1) open(2) put(0,5) put(1,5) put(1,6) cut(0) cut(1) close() discard()");
    private static final List<Call> QUESTIONS = questions();

    public static void main(String[] args) {
        goOn(new ArrayList<>());
        DUE.end();
    }

    /** Tries each call after the run; one that was refused changed nothing, so no run goes on from there. */
    private static void goOn(List<Call> run) {
        for (Call call : CHANGES) {
            run.add(call);
            if (look(run) >= 0 && run.size() < LONGEST && DUE.wrong() < 20) {
                goOn(run);
            }
            run.remove(run.size() - 1);
        }
    }

    /** The answer of the run's last call. */
    private static long look(List<Call> run) {
        WeaveStore store = new WeaveStore();
        Model model = new Model();
        long got = 0;
        long want = 0;
        for (Call call : run) {
            got = call.on(store);
            want = call.on(model);
        }
        check(run, "", got, want);
        for (Call question : QUESTIONS) {
            check(run, question, question.on(store), question.on(model));
        }
        return want;
    }

    private static void check(List<Call> run, Object question, long got, long want) {
        // The name is costly to make, and is needed only when it is to be printed.
        DUE.same(got == want ? "" : run + " " + question, got, want);
    }

    private static List<Call> questions() {
        List<Call> calls = Call.list("versions() draft(0) draft(1) draft(2)");
        for (int v = 0; v <= 4; v++) {
            calls.add(Call.of("length", v));
            calls.add(Call.of("base", v));
            calls.add(Call.of("ancestors", v));
        }
        for (int v = 1; v <= 3; v++) {
            for (int i = 0; i <= 2; i++) {
                calls.add(Call.of("line", v, i));
                calls.add(Call.of("origin", v, i));
                calls.add(Call.of("having", v, i));
                calls.add(Call.of("placeIn", v, i, 1));
                calls.add(Call.of("placeIn", v, i, 2));
            }
            calls.add(Call.of("shared", v, 1));
            calls.add(Call.of("shared", v, 2));
        }
        return calls;
    }
}
