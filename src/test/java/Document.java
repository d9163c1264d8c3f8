import java.io.IOException;
import java.nio.file.Files;
import java.nio.file.Path;
import java.util.LinkedHashMap;
import java.util.Map;

/** What ../shared/DOC.md says under 'Terms' and in each promise, and which of it has been quoted by a test. */
final class Document {
    private final Map<String, String> sections = new LinkedHashMap<>();
    private final Map<String, boolean[]> quoted = new LinkedHashMap<>();
    private final boolean there;

    /** Of a file that is not there nothing can be looked up: each quote is taken then. */
    Document(Path file) throws IOException {
        there = Files.exists(file);
        if (!there) return;
        String section = "";
        for (String line : Files.readAllLines(file)) {
            if (line.startsWith("## ")) {
                section = line.substring(3).replaceAll(":.*", "");
            } else if (section.equals("Terms") || section.startsWith("Promise ")) {
                sections.merge(section, words(line), (a, b) -> plain(a + " " + b));
            }
        }
        sections.forEach((name, text) -> quoted.put(name, new boolean[text.length()]));
    }

    /** A line without what is no sentence: the signatures, the marks of the layout, what the interface says. */
    private static String words(String line) {
        if (line.startsWith("```") || line.startsWith("Ahead of the calls")) return "";
        return plain(line.replaceAll("^======== \\d ", "").replaceAll("^`[^`]*`: ", ""));
    }

    private static String plain(String text) {
        return text.trim().replaceAll("\\s+", " ");
    }

    /** Marks a sentence as quoted: whether it is there. */
    boolean quote(String section, String sentence) {
        if (!there) return true;
        String text = sections.getOrDefault(section, "");
        String sought = plain(sentence);
        int at = text.indexOf(sought);
        for (int i = at; at >= 0 && i < at + sought.length(); i++) quoted.get(section)[i] = true;
        return at >= 0;
    }

    /** What no test has quoted, section by section; empty if all has been. */
    String unquoted() {
        StringBuilder all = new StringBuilder();
        sections.forEach((name, text) -> {
            StringBuilder rest = new StringBuilder();
            for (int i = 0; i < text.length(); i++) rest.append(quoted.get(name)[i] ? ' ' : text.charAt(i));
            if (!plain(rest.toString()).isEmpty()) all.append(name).append(": ").append(plain(rest.toString())).append('\n');
        });
        return all.toString();
    }

    boolean isThere() {
        return there;
    }

    int sectionCount() {
        return sections.size();
    }
}
