import java.nio.file.Files;
import java.nio.file.Path;
import java.util.ArrayList;
import java.util.LinkedHashMap;
import java.util.List;
import java.util.Map;
import java.util.Set;

/** The document, cut into its sections; it remembers which of its words have been quoted. */
final class Document {
    private final Map<String, String> words = new LinkedHashMap<>();
    private final Map<String, boolean[]> quoted = new LinkedHashMap<>();

    Document(String path) throws Exception {
        String section = "Title";
        Map<String, StringBuilder> texts = new LinkedHashMap<>();
        for (String line : Files.readAllLines(Path.of(path))) {
            boolean chapter = line.startsWith("## ");
            if (chapter || line.matches("[A-Z]+( [A-Z]+)*")) {
                // "## Promise 7: addStation" is the section "Promise 7".
                section = chapter ? line.substring(3).replaceAll(":.*", "") : line;
            } else {
                texts.computeIfAbsent(section, name -> new StringBuilder()).append(line).append(' ');
            }
        }
        texts.forEach((name, text) -> {
            words.put(name, text.toString().replaceAll("\\s+", " ").trim());
            quoted.put(name, new boolean[words.get(name).length()]);
        });
    }

    Set<String> sections() {
        return words.keySet();
    }

    String text(String section) {
        return words.getOrDefault(section, "");
    }

    /** Marks these words of a section, wherever they stand in it. */
    void quote(String section, String quote) {
        String text = text(section);
        if (!text.contains(quote)) {
            throw new AssertionError("the document does not say so in " + section + ": " + quote);
        }
        for (int at = text.indexOf(quote); at >= 0; at = text.indexOf(quote, at + 1)) {
            java.util.Arrays.fill(quoted.get(section), at, at + quote.length(), true);
        }
    }

    /** What nobody has quoted, without signs that stand alone. */
    List<String> unquoted(String section) {
        StringBuilder left = new StringBuilder();
        String text = text(section);
        for (int at = 0; at < text.length(); at++) {
            left.append(quoted.get(section)[at] ? '\n' : text.charAt(at));
        }
        List<String> all = new ArrayList<>();
        for (String part : left.toString().split("\n+")) {
            if (part.matches(".*[A-Za-z0-9].*")) {
                all.add(part.trim());
            }
        }
        return all;
    }
}
