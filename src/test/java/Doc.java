import java.io.IOException;
import java.nio.file.Files;
import java.nio.file.Path;
import java.util.ArrayList;
import java.util.LinkedHashMap;
import java.util.List;
import java.util.Map;

/**
 * The document's Terms and Promises, with what it says of an object's use, and which of their words
 * have been quoted.
 */
final class Doc {
    private static final Path FILE = Path.of("../shared/DOC.md");

    private final Map<String, String> sections = new LinkedHashMap<>();
    private final Map<String, boolean[]> quoted = new LinkedHashMap<>();

    Doc() throws IOException {
        if (!Files.isReadable(FILE)) {
            System.out.println("Doc: " + FILE + " is not here: quotes are not held against it");
            return;
        }
        String name = "";
        StringBuilder words = new StringBuilder();
        for (String line : (Files.readString(FILE) + "\n## end").split("\n")) {
            if (line.startsWith("## ")) {
                keep(name, words.toString());
                name = line.substring(3).replaceAll(":.*", "");
                words.setLength(0);
            } else if (!line.startsWith("```") && !line.startsWith("Ahead of the calls")) {
                words.append(line).append(' ');
            }
        }
    }

    private void keep(String name, String words) {
        if (name.equals("What it is")) {
            keepPlain(name, words.substring(Math.max(0, words.indexOf("An object is used"))));
        } else if (name.equals("Terms") || name.startsWith("Promise ")) {
            keepPlain(name, words);
        }
    }

    private void keepPlain(String name, String words) {
        String plain = words.replaceAll("`[^`]*`:", " ").replaceAll("======== \\d", " ");
        plain = plain.replaceAll("\\s+", " ").trim();
        sections.put(name, plain);
        quoted.put(name, new boolean[plain.length()]);
    }

    boolean isHere() {
        return !sections.isEmpty();
    }

    int size() {
        return sections.size();
    }

    /** Whether the section has these words; they are quoted then. */
    boolean quote(String section, String words) {
        if (!isHere()) {
            return true;
        }
        int start = sections.getOrDefault(section, "").indexOf(words);
        if (start < 0) {
            return false;
        }
        boolean[] marks = quoted.get(section);
        for (int i = start; i < start + words.length(); i++) {
            marks[i] = true;
        }
        return true;
    }

    /** Words of the document that no test has quoted. */
    List<String> leftOut() {
        List<String> all = new ArrayList<>();
        for (Map.Entry<String, String> section : sections.entrySet()) {
            boolean[] marks = quoted.get(section.getKey());
            StringBuilder open = new StringBuilder();
            for (int i = 0; i < marks.length; i++) {
                open.append(marks[i] ? '\n' : section.getValue().charAt(i));
            }
            for (String words : open.toString().split("\n+")) {
                if (words.matches(".*\\w.*")) {
                    all.add(section.getKey() + ": " + words.trim());
                }
            }
        }
        return all;
    }
}
