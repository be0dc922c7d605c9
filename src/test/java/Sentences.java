import java.util.List;
import java.util.Map;
import java.util.Set;
import java.util.TreeMap;
import java.util.TreeSet;
import java.util.regex.Matcher;
import java.util.regex.Pattern;

/**
 * For tests that go through the document sentence by sentence: each quotes the words that it tests and tells runs
 * of calls as text. Every run is made on a new object; refused calls are also looked at for what they leave behind.
 */
abstract class Sentences {
    private static final Due DUE = new Due();
    private static final int CALLS = 512;
    private static final Pattern WORD = Pattern.compile("\\w+");
    private static final Set<String> LINKS = Set.of("and", "or");

    // What is left of each section when the words that were quoted are struck out.
    private static final Map<String, String> UNTOLD = new TreeMap<>();
    private static String sentence = "";

    /** The words that the next runs are about; " .. " leaves some out, or stands in the document itself. */
    static void sentence(String section, String words) {
        sentence = section + ", \"" + words + "\"";
        String text = Document.section(section);
        StringBuilder untold = new StringBuilder(UNTOLD.getOrDefault(section, text));
        int from = 0;
        for (String part : words.split(" \\.\\. ")) {
            int at = text.indexOf(part, from);
            if (at < 0) {
                throw new IllegalArgumentException("the document does not say: " + sentence);
            }
            from = at + part.length();
            untold.replace(at, from, " ".repeat(part.length()));
        }
        UNTOLD.put(section, untold.toString());
    }

    /** No word of the section may be left that no test quotes; the heads of methods are tested with the face. */
    static void allTold(String section) {
        String untold = UNTOLD.getOrDefault(section, Document.section(section)).replaceAll("`[^`]*`", "");
        Set<String> words = new TreeSet<>();
        for (Matcher word = WORD.matcher(untold); word.find();) {
            words.add(word.group());
        }
        words.removeAll(LINKS);
        DUE.same(section + ": words without a test " + words, words.size(), 0);
    }

    static void end() {
        DUE.end();
    }

    /** Makes the calls on a new object; those with "=" must answer what stands after it. */
    static void due(String text) {
        List<Call> calls = Call.list(text);
        if (calls.size() > CALLS) {
            throw new IllegalArgumentException("a longer run than the document promises: " + text);
        }
        make(calls, text);
    }

    private static void make(List<Call> calls, String text) {
        WeaveStore x = new WeaveStore();
        for (int k = 0; k < calls.size(); k++) {
            Call call = calls.get(k);
            String name = sentence + ": call " + (k + 1) + " of " + text + ": " + call;
            try {
                long got = call.on(x);
                if (call.due() != null) {
                    DUE.same(name, got, call.due());
                }
            } catch (RuntimeException e) {
                DUE.thrown(name, e);
                return;
            }
        }
    }

    /** As due, for a run that goes up to the last call that is promised. */
    static void dueToTheLast(String text) {
        if (Call.list(text).size() != CALLS) {
            throw new IllegalArgumentException("not a run of " + CALLS + " calls: " + text);
        }
        due(text);
    }

    /** A run beyond the last call that is promised: no answer is due, but each call ends and none throws. */
    static void dueToEnd(String text) {
        List<Call> calls = Call.list(text);
        if (calls.size() <= CALLS || calls.stream().anyMatch(call -> call.due() != null)) {
            throw new IllegalArgumentException("not a run whose answers are free: " + text);
        }
        make(calls, text);
    }

    /** The call, with each of the numbers for its "#", answers so in this state. */
    static void each(String state, String call, int[] numbers, String answer) {
        for (int n : numbers) {
            due(state + call.replace("#", Integer.toString(n)) + "=" + answer);
        }
    }

    /** As each, and the call leaves everything as it was. */
    static void refused(String state, String call, int[] numbers, String answer) {
        each(state, call, numbers, answer);
        for (int n : numbers) {
            unchanged(state, call.replace("#", Integer.toString(n)));
        }
    }

    static void refused(String state, String call, String answer) {
        refused(state, call, new int[] {0}, answer);
    }

    private static void unchanged(String state, String call) {
        String name = sentence + ": " + state + call + " changes nothing";
        try {
            long[] before = Picture.of(Call.list(state));
            String changed = Picture.difference(Picture.of(Call.list(state + call)), before);
            DUE.same(name + ": " + changed, changed.isEmpty(), true);
        } catch (RuntimeException e) {
            DUE.thrown(name, e);
        }
    }

    static int[] outside(int low, int high) {
        return Bounds.outside(low, high);
    }

    /** Numbers that name no version when there are so many. */
    static int[] noVersion(int versions) {
        return outside(0, versions - 1);
    }

    /** Puts with the answers from, from + 1, .. , to. */
    static String puts(int from, int to) {
        StringBuilder calls = new StringBuilder();
        for (int n = from; n <= to; n++) {
            calls.append("put(0,4)=" + n + " ");
        }
        return calls.toString();
    }
}
