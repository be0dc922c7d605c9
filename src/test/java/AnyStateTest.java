import java.util.ArrayList;
import java.util.List;

/** In each state about the bounds, every call with all kinds of arguments: answer and state must be the model's. */
public final class AnyStateTest {
    private static final Due DUE = new Due();

    // Next to every bound of the document, the ends of int, and numbers that fold back into a range.
    private static final int[] NUMBERS = {
        Integer.MIN_VALUE, Integer.MIN_VALUE + 1, -(1 << 30), -357913941, -100, -12, -2, -1, 0, 1, 2, 3, 4, 5, 6,
        10, 11, 12, 13, 29, 30, 31, 32, 33, 98, 99, 100, 144, 256, 357913942, 1 << 30,
        Integer.MAX_VALUE - 1, Integer.MAX_VALUE,
    };

    public static void main(String[] args) {
        for (String text : States.ALL) {
            List<Call> state = Call.list(text);
            long[] before = Picture.of(state);
            samePicture("state [" + text + "]", before, Picture.ofModel(state));
            answers(state, text);
            changes(state, text, before);
            endless(state);
        }
        DUE.end();
    }

    private static void samePicture(String name, long[] got, long[] want) {
        String difference = Picture.difference(got, want);
        DUE.same(name + ": " + difference, difference.isEmpty(), true);
    }

    private static List<Call> allCalls() {
        List<Call> calls = Call.list("close() discard() versions()");
        for (int a : NUMBERS) {
            for (String name : new String[] {"open", "cut", "length", "base", "ancestors", "draft"}) {
                calls.add(Call.of(name, a));
            }
            for (int b : NUMBERS) {
                for (String name : new String[] {"put", "line", "origin", "shared", "having"}) {
                    calls.add(Call.of(name, a, b));
                }
                for (int c : NUMBERS) {
                    calls.add(Call.of("placeIn", a, b, c));
                }
            }
        }
        return calls;
    }

    private static void answers(List<Call> state, String text) {
        for (Call call : allCalls()) {
            WeaveStore store = new WeaveStore();
            Model model = new Model();
            state.forEach(made -> made.on(store));
            state.forEach(made -> made.on(model));
            DUE.same("after [" + text + "] " + call, call.on(store), call.on(model));
        }
    }

    /** A refused call and a question change nothing; what else a call changes, the model tells. */
    private static void changes(List<Call> state, String text, long[] before) {
        for (Call call : changingCalls()) {
            WeaveStore store = new WeaveStore();
            state.forEach(made -> made.on(store));
            boolean refused = call.on(store) < 0;
            List<Call> then = new ArrayList<>(state);
            then.add(call);
            long[] want = refused ? before : Picture.ofModel(then);
            samePicture("after [" + text + "] " + call, Picture.of(then), want);
        }
        for (Call call : questions()) {
            List<Call> then = new ArrayList<>(state);
            then.add(call);
            samePicture("after [" + text + "] the question " + call, Picture.of(then), before);
        }
    }

    private static List<Call> changingCalls() {
        List<Call> calls = Call.list("close() discard()");
        int[] contents = {Integer.MIN_VALUE, -1, 0, 99, 100, Integer.MAX_VALUE};
        for (int a : NUMBERS) {
            calls.add(Call.of("open", a));
            calls.add(Call.of("cut", a));
            for (int content : contents) {
                calls.add(Call.of("put", a, content));
            }
        }
        return calls;
    }

    private static List<Call> questions() {
        List<Call> calls = Call.list("versions()");
        for (int a : new int[] {Integer.MIN_VALUE, -1, 0, 1, 2, 3, 11, 12, Integer.MAX_VALUE}) {
            for (String name : new String[] {"length", "base", "ancestors", "draft"}) {
                calls.add(Call.of(name, a));
            }
            for (int b : new int[] {-1, 0, 11}) {
                for (String name : new String[] {"line", "origin", "shared", "having"}) {
                    calls.add(Call.of(name, a, b));
                }
                calls.add(Call.of("placeIn", a, b, 11));
            }
        }
        return calls;
    }

    /** After the 512th call answers are free, but a call must still end and not throw. */
    private static void endless(List<Call> state) {
        WeaveStore store = new WeaveStore();
        state.forEach(made -> made.on(store));
        List<Call> calls = changingCalls();
        calls.addAll(questions());
        calls.addAll(Call.list("open(0) put(0,1)*12 close() open(1) cut(0) put(3,5)*3 close() open(11) cut(10)"));
        // A step that has no factor in common with the number of calls mixes them and leaves none out.
        int step = 7919;
        for (int k = 0; k < 20 * calls.size(); k++) {
            calls.get((int) ((long) k * step % calls.size())).on(store);
        }
        // A throw would have ended the test, and a call without end the watch of Due.
        DUE.same("all calls came to an end", true, true);
    }
}
