import java.io.IOException;
import java.nio.file.Files;
import java.nio.file.Path;
import java.util.LinkedHashMap;
import java.util.LinkedHashSet;
import java.util.Map;
import java.util.Set;

/** The document's sections. Tests strike out the sentences they ask about; what is left has no test. */
final class Document {
    private static final Path FILE = Path.of("../shared/DOC.md");
    private static final String TITLE = "# SpaceWalls";
    // What stands in the sections beside sentences: the terms' numbers, fences, the calls' heads.
    private static final String NO_SENTENCE = "==== \\d+\\.|```(text)?|`[^`]*`:";

    private final Map<String, String> left = new LinkedHashMap<>();

    Document() throws IOException {
        for (String part : Files.readString(FILE).split("(?m)^## ")) {
            int end = part.indexOf('\n');
            String name = end < 0 ? part : part.substring(0, end);
            left.put(name.replaceAll(":.*", "").strip(), onOneLine(end < 0 ? "" : part.substring(end)));
        }
    }

    private static String onOneLine(String text) {
        return text.replaceAll("\\s+", " ").strip();
    }

    /** Whether the sentence stands in the section, and no test has struck it out before. */
    boolean strikeOut(String section, String sentence) {
        String text = left.getOrDefault(section, "");
        int at = text.indexOf(sentence);
        if (at < 0 || sentence.isEmpty()) {
            return false;
        }
        left.put(section, text.substring(0, at) + text.substring(at + sentence.length()));
        return true;
    }

    /** The names of all sections, without what stands before the first. */
    Set<String> sections() {
        Set<String> names = new LinkedHashSet<>(left.keySet());
        names.remove(TITLE);
        return names;
    }

    /** What no test has struck out of a section. */
    String leftOf(String section) {
        return onOneLine(left.getOrDefault(section, "").replaceAll(NO_SENTENCE, ""));
    }
}
