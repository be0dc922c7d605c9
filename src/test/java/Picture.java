import java.util.ArrayList;
import java.util.List;

/** All that can be seen of a state, by asking and by going on from it. */
final class Picture {
    private static final int CALLS = 512;
    private static final int TOP = 12;
    private static final List<List<Call>> LOOKS = looks();

    /** The state is the calls that lead to it; each look at it has an object of its own, as it may change it. */
    static long[] of(List<Call> state) {
        return answers(state, false);
    }

    static long[] ofModel(List<Call> state) {
        return answers(state, true);
    }

    /** The first call that tells the two pictures apart, or an empty text. */
    static String difference(long[] got, long[] want) {
        int at = 0;
        for (List<Call> look : LOOKS) {
            for (int k = 0; k < look.size(); k++) {
                if (got[at] != want[at]) {
                    return "then " + look.subList(0, k) + " " + look.get(k) + " answers " + got[at]
                            + " and not " + want[at];
                }
                at++;
            }
        }
        return "";
    }

    private static long[] answers(List<Call> state, boolean ofModel) {
        int count = 0;
        for (List<Call> look : LOOKS) {
            count += look.size();
            if (state.size() + look.size() > CALLS) {
                throw new IllegalArgumentException("a longer run than the document promises: " + state);
            }
        }
        long[] answers = new long[count];
        int at = 0;
        for (List<Call> look : LOOKS) {
            WeaveStore store = new WeaveStore();
            Model model = new Model();
            for (Call call : state) {
                make(call, store, model, ofModel);
            }
            for (Call call : look) {
                answers[at] = make(call, store, model, ofModel);
                at++;
            }
        }
        return answers;
    }

    private static long make(Call call, WeaveStore store, Model model, boolean ofModel) {
        return ofModel ? call.on(model) : call.on(store);
    }

    private static List<List<Call>> looks() {
        List<List<Call>> looks = new ArrayList<>();
        // The draft's lines are told by the version that it becomes.
        for (String first : new String[] {"", "close()"}) {
            looks.add(join(Call.list(first), versions()));
            for (int v = 0; v < TOP; v++) {
                looks.add(join(Call.list(first), lines(v)));
            }
        }
        // With twelve versions it can't become one, but it can be taken apart.
        looks.add(Call.list("cut(0) draft(0) draft(1) draft(2) ".repeat(TOP + 1)));
        // How many lines may still be put, with this draft and without it.
        String rounds = "cut(0)*12 put(0,1)*12 ".repeat(3);
        looks.add(Call.list(rounds));
        looks.add(Call.list("discard() open(0) " + rounds));
        return looks;
    }

    private static List<Call> join(List<Call> first, List<Call> then) {
        List<Call> both = new ArrayList<>(first);
        both.addAll(then);
        return both;
    }

    private static List<Call> versions() {
        List<Call> look = Call.list("versions() draft(0) draft(1) draft(2)");
        for (int v = 0; v <= TOP; v++) {
            look.add(Call.of("length", v));
            look.add(Call.of("base", v));
            look.add(Call.of("ancestors", v));
            for (int w = 0; w < TOP; w++) {
                look.add(Call.of("shared", v, w));
            }
        }
        return look;
    }

    private static List<Call> lines(int v) {
        List<Call> look = new ArrayList<>();
        for (int i = 0; i <= TOP; i++) {
            look.add(Call.of("line", v, i));
            look.add(Call.of("origin", v, i));
            look.add(Call.of("having", v, i));
            for (int w = 0; w < TOP; w++) {
                look.add(Call.of("placeIn", v, i, w));
            }
        }
        return look;
    }
}
