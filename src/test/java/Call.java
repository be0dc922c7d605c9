import java.util.ArrayList;
import java.util.List;
import java.util.regex.Matcher;
import java.util.regex.Pattern;

/** One call, to be made on the class and on the model alike; due is null when its answer is not asked for. */
record Call(String name, int[] args, Long due) {
    private static final Pattern FORM =
            Pattern.compile("\\s*(\\w+)\\(([^()]*)\\)(?:\\*(\\d+))?(?:=(-?\\w+))?\\s*");

    /** Reads calls such as "open(0)=0 put(0,5)*12 put(MAX,5)=BAD": "*12" makes a call twelve times. */
    static List<Call> list(String text) {
        List<Call> calls = new ArrayList<>();
        Matcher found = FORM.matcher(text);
        int from = 0;
        while (from < text.length()) {
            // A slip in a test's text must not make the test smaller in silence.
            if (!found.region(from, text.length()).lookingAt()) {
                throw new IllegalArgumentException("not a call: " + text.substring(from));
            }
            Long due = found.group(4) == null ? null : number(found.group(4));
            Call call = new Call(found.group(1), numbers(found.group(2)), due);
            int times = found.group(3) == null ? 1 : Integer.parseInt(found.group(3));
            for (int k = 0; k < times; k++) {
                calls.add(call);
            }
            from = found.end();
        }
        return calls;
    }

    static Call of(String name, int... args) {
        return new Call(name, args, null);
    }

    private static int[] numbers(String text) {
        if (text.isBlank()) {
            return new int[0];
        }
        String[] parts = text.split(",");
        int[] args = new int[parts.length];
        for (int k = 0; k < parts.length; k++) {
            args[k] = (int) number(parts[k].trim());
        }
        return args;
    }

    private static long number(String text) {
        switch (text) {
            case "BAD": return -1;
            case "FULL": return -2;
            case "true": return 1;
            case "false": return 0;
            case "MIN": return Integer.MIN_VALUE;
            case "MAX": return Integer.MAX_VALUE;
            default: return Integer.parseInt(text);
        }
    }

    /** A boolean answer counts 1 or 0. */
    long on(WeaveStore x) {
        switch (name) {
            case "open": return x.open(args[0]);
            case "put": return x.put(args[0], args[1]);
            case "cut": return x.cut(args[0]);
            case "close": return x.close();
            case "discard": return x.discard() ? 1 : 0;
            case "versions": return x.versions();
            case "length": return x.length(args[0]);
            case "line": return x.line(args[0], args[1]);
            case "origin": return x.origin(args[0], args[1]);
            case "base": return x.base(args[0]);
            case "ancestors": return x.ancestors(args[0]);
            case "shared": return x.shared(args[0], args[1]);
            case "placeIn": return x.placeIn(args[0], args[1], args[2]);
            case "having": return x.having(args[0], args[1]);
            case "draft": return x.draft(args[0]);
            default: throw new IllegalArgumentException(name);
        }
    }

    long on(Model x) {
        switch (name) {
            case "open": return x.open(args[0]);
            case "put": return x.put(args[0], args[1]);
            case "cut": return x.cut(args[0]);
            case "close": return x.close();
            case "discard": return x.discard() ? 1 : 0;
            case "versions": return x.versions();
            case "length": return x.length(args[0]);
            case "line": return x.line(args[0], args[1]);
            case "origin": return x.origin(args[0], args[1]);
            case "base": return x.base(args[0]);
            case "ancestors": return x.ancestors(args[0]);
            case "shared": return x.shared(args[0], args[1]);
            case "placeIn": return x.placeIn(args[0], args[1], args[2]);
            case "having": return x.having(args[0], args[1]);
            case "draft": return x.draft(args[0]);
            default: throw new IllegalArgumentException(name);
        }
    }

    @Override
    public String toString() {
        StringBuilder text = new StringBuilder(name).append('(');
        for (int k = 0; k < args.length; k++) {
            text.append(k == 0 ? "" : ", ").append(args[k]);
        }
        return text.append(')').toString();
    }
}
