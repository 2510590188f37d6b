import java.io.IOException;
import java.io.UncheckedIOException;
import java.nio.file.Files;
import java.nio.file.Path;
import java.util.ArrayList;
import java.util.LinkedHashMap;
import java.util.List;
import java.util.Map;
import java.util.regex.Matcher;
import java.util.regex.Pattern;

/** The document in parts, and which of its sentences a test has quoted. */
final class Document {
    static final String TEXTS = "Terms";
    static final String LEAVES = "==== 2.";
    static final String TREES = "==== 3.";
    private final Map<String, String> parts = new LinkedHashMap<>();
    private final Map<String, boolean[]> quoted = new LinkedHashMap<>();

    Document() {
        String text = read().replaceAll("```(text)?", " ").replaceAll("\\s+", " ");
        part(TEXTS, text, "## Terms ", " ==== 2. ");
        part(LEAVES, text, " ==== 2. ", " ==== 3. ");
        part(TREES, text, " ==== 3. ", " ## Promise 1:");
        for (int k = 1; k <= 47; k++) {
            part(promise(k), text, "## Promise " + k + ":", k < 47 ? "## Promise " + (k + 1) + ":" : "## Not promised");
        }
    }

    static String promise(int k) {
        return "Promise " + k;
    }

    private static String read() {
        try {
            return Files.readString(Path.of("../shared/DOC.md"));
        } catch (IOException e) {
            throw new UncheckedIOException(e);
        }
    }

    private void part(String name, String text, String start, String end) {
        int from = text.indexOf(start);
        int to = text.indexOf(end, from + 1);
        if (from < 0 || to < 0) {
            throw new IllegalStateException("the document has no " + name);
        }
        parts.put(name, text.substring(from + start.length(), to));
        quoted.put(name, new boolean[to - from - start.length()]);
    }

    void quote(String name, String words) {
        int from = parts.get(name).indexOf(words);
        if (from < 0) {
            throw new IllegalStateException(name + " of the document does not say (any more): " + words);
        }
        for (int k = from; k < from + words.length(); k++) {
            quoted.get(name)[k] = true;
        }
    }

    /** The sentences, as far as a stop, semicolon or colon, of which no test has quoted a word; heads of promises aside. */
    List<String> untold() {
        List<String> untold = new ArrayList<>();
        for (String name : parts.keySet()) {
            String text = parts.get(name);
            Matcher m = Pattern.compile("[^.;:|]*[.;:|]?").matcher(text);
            while (m.find()) {
                boolean head = m.group().contains("` ") || m.group().matches("[^a-z]*|.*`[a-z]+ [a-zA-Z]+\\(.*");
                boolean told = head;
                for (int k = m.start(); k < m.end(); k++) {
                    told |= quoted.get(name)[k];
                }
                if (!told) {
                    untold.add(name + ": " + m.group().trim());
                }
            }
        }
        return untold;
    }
}
