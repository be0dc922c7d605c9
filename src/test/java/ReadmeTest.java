import java.io.IOException;
import java.lang.reflect.Method;
import java.lang.reflect.Modifier;
import java.nio.file.Files;
import java.nio.file.Path;
import java.util.List;
import java.util.regex.Matcher;
import java.util.regex.Pattern;
import java.util.stream.Collectors;
import java.util.stream.Stream;

/** What README.md shows of the class is what the class does, and it leaves out no call and no test. */
public final class ReadmeTest {
    private static final Path README = Path.of("README.md");
    private static final Path TESTS = Path.of("src/test/java");
    private static final Pattern EXAMPLE = Pattern.compile("```java\n(.*?)```", Pattern.DOTALL);
    private static final Pattern ROW = Pattern.compile("store\\.(\\w+\\([^)]*\\));\\s*// (\\w+)(:.*)?");
    private static final Due DUE = new Due();

    public static void main(String[] args) throws IOException {
        String readme = Files.readString(README);
        Matcher found = EXAMPLE.matcher(readme);
        DUE.same("README.md has an example", found.find(), true);
        String example = found.group(1);
        answers(example);
        namesCalls(readme, example);
        namesTests(readme);
        DUE.end();
    }

    private static void answers(String example) {
        WeaveStore store = new WeaveStore();
        for (String row : example.lines().filter(row -> row.startsWith("store.")).collect(Collectors.toList())) {
            Matcher parts = ROW.matcher(row);
            DUE.same("a call and its answer: " + row, parts.matches(), true);
            Call call = Call.list(parts.group(1) + "=" + parts.group(2)).get(0);
            DUE.same(row, call.on(store), call.due());
        }
    }

    private static void namesCalls(String readme, String example) {
        for (Method method : WeaveStore.class.getDeclaredMethods()) {
            if (Modifier.isPublic(method.getModifiers())) {
                String call = method.getName() + "(";
                DUE.same("the example has " + call, example.contains("store." + call), true);
                DUE.same("a table has " + call, readme.contains("| `" + call), true);
            }
        }
    }

    private static void namesTests(String readme) throws IOException {
        List<String> names;
        try (Stream<Path> files = Files.list(TESTS)) {
            names = files.map(file -> file.getFileName().toString().replace(".java", "")).collect(Collectors.toList());
        }
        for (String name : names) {
            DUE.same("README.md names " + name, readme.contains("`" + name + "`"), true);
        }
    }
}
