import java.io.IOException;
import java.nio.file.Files;
import java.nio.file.Path;
import java.util.ArrayList;
import java.util.LinkedHashMap;
import java.util.List;
import java.util.Map;

/** The sentences of the document, section by section; read from the project's folder. */
final class Document {
    private static final Path PLACE = Path.of("../shared/DOC.md");
    private final Map<String, List<String>> sections = new LinkedHashMap<>();
    private final List<String> face = new ArrayList<>();

    Document() throws IOException {
        List<String> sentences = new ArrayList<>();
        for (String line : Files.readAllLines(PLACE)) {
            if (line.startsWith("    public ")) {
                face.add(line.strip());
            } else if (line.startsWith("## ")) {
                sentences = new ArrayList<>();
                sections.put(line.substring(3).replaceAll(":.*", ""), sentences);
            } else if (!line.isBlank() && !line.startsWith("----") && !line.startsWith("`")) {
                sentences.addAll(List.of(line.replace("`", "").split("(?<=[.)]) +(?=[A-Z(])")));
            }
        }
        // The word before a paragraph of the description, like "Loans.", says nothing by itself.
        sections.values().forEach(all -> all.removeIf(sentence -> sentence.matches("\\w+\\.")));
    }

    List<String> sentences(String section) {
        return sections.getOrDefault(section, List.of());
    }

    /** The lines of the public face, as they stand there. */
    List<String> face() {
        return face;
    }

    /** The sections whose sentences all have a test of their own. */
    List<String> testedSections() {
        List<String> names = new ArrayList<>(sections.keySet());
        names.removeIf(name -> !name.matches("What it is|Description|Promise \\d+"));
        return names;
    }
}
