import java.io.IOException;
import java.io.UncheckedIOException;
import java.nio.file.Files;
import java.nio.file.Path;
import java.util.LinkedHashMap;
import java.util.Map;

/** The parts of ../shared/DOC.md that promise something, each as one line, by the name that tests call it by. */
final class Document {
    static final int PROMISES = 34;
    private final Map<String, String> parts = new LinkedHashMap<>();

    Document() {
        String whole = text().replace("```text", " ").replace("```", " ").replaceAll("\\s+", " ");
        parts.put("Terms", between(whole, "## Terms", "======== 1"));
        parts.put("Section 1", between(whole, "======== 1", "======== 2"));
        parts.put("Section 2", between(whole, "======== 2", "======== 3"));
        parts.put("Section 3", between(whole, "======== 3", "Ahead of the calls"));
        for (int n = 1; n <= PROMISES; n++) {
            String next = n < PROMISES ? "## Promise " + (n + 1) + ":" : "## Not promised";
            // behind the call itself, which stands in back quotes with a colon
            String body = between(whole, "## Promise " + n + ":", next);
            parts.put("Promise " + n, body.substring(body.indexOf("`:") + 2));
        }
    }

    private static Path path() {
        return Path.of(System.getProperty("project", ".")).resolve("../shared/DOC.md");
    }

    static boolean isHere() {
        return Files.isReadable(path());
    }

    private static String text() {
        try {
            return Files.readString(path());
        } catch (IOException e) {
            throw new UncheckedIOException(e);
        }
    }

    private static String between(String whole, String from, String to) {
        int start = whole.indexOf(from);
        int end = whole.indexOf(to, start);
        if (start < 0 || end < 0) {
            throw new IllegalStateException("the document has no '" + from + "' ahead of '" + to + "'");
        }
        return whole.substring(start + from.length(), end);
    }

    Iterable<String> names() {
        return parts.keySet();
    }

    String part(String name) {
        return parts.getOrDefault(name, "");
    }

    /** Where the words stand in a part; -1 if they don't, or more than once. */
    int find(String name, String words) {
        String part = part(name);
        int at = part.indexOf(words);
        return at >= 0 && part.indexOf(words, at + 1) < 0 ? at : -1;
    }
}
