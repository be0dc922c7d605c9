import java.io.IOException;
import java.io.UncheckedIOException;
import java.nio.file.Files;
import java.nio.file.Path;
import java.util.LinkedHashMap;
import java.util.Map;

/** The words of the document, by section, so that a test can't quote what the document does not say. */
final class Document {
    private static final Path FILE = Path.of("../shared/DOC.md");
    private static final Map<String, String> SECTIONS = sections();

    /** The words under a heading, told by what stands in it before a colon: "Terms", "Promise 3". */
    static String section(String title) {
        if (!SECTIONS.containsKey(title)) {
            throw new IllegalArgumentException("the document has no section " + title);
        }
        return SECTIONS.get(title);
    }

    private static Map<String, String> sections() {
        Map<String, String> sections = new LinkedHashMap<>();
        for (String part : read().split("(?m)^## ")) {
            String[] headAndWords = part.split("\n", 2);
            String title = headAndWords[0].split(":")[0].trim();
            // Where a row of the file ends is no part of what it says.
            sections.put(title, headAndWords[1].replaceAll("\\s+", " ").trim());
        }
        return sections;
    }

    private static String read() {
        try {
            return Files.readString(FILE);
        } catch (IOException e) {
            throw new UncheckedIOException(e);
        }
    }
}
