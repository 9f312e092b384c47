import java.io.IOException;
import java.nio.file.Files;
import java.nio.file.Path;
import java.util.ArrayList;
import java.util.LinkedHashMap;
import java.util.List;
import java.util.Map;

/** The document's sections by their headings, and the sentences of each. */
final class Document {
    private final Map<String, String> sections = new LinkedHashMap<>();

    Document(Path file) throws IOException {
        String heading = "";
        for (String line : Files.readAllLines(file)) {
            if (line.startsWith("## ")) {
                // "Promise 2: node" is told as "Promise 2".
                heading = line.substring(3).replaceAll(":.*", "").strip();
            } else if (!line.startsWith("```")) {
                sections.merge(heading, line.strip(), (a, b) -> (a + " " + b).strip());
            }
        }
    }

    List<String> headings() {
        return new ArrayList<>(sections.keySet());
    }

    boolean says(String heading, String words) {
        return sections.getOrDefault(heading, "").contains(words);
    }

    /** The sentences of a section, without a method's line or a part's number ahead of them. */
    List<String> sentences(String heading) {
        String text = sections.getOrDefault(heading, "").replaceFirst("^`[^`]*`: ", "");
        List<String> found = new ArrayList<>();
        for (String sentence : text.split("(?<=\\.)\\s+(?=[A-Z(=])")) {
            found.add(sentence.replaceFirst("^=+ \\d ", ""));
        }
        return found;
    }
}
