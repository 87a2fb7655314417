import java.io.IOException;
import java.nio.file.Files;
import java.nio.file.Path;
import java.util.ArrayList;
import java.util.LinkedHashMap;
import java.util.List;
import java.util.Map;

/** The document's sections, each a list of clauses, and which of these have been quoted. */
final class Doc {
    private static final String HEADING_WITHOUT_SIGN = "Edges, cuts and staples";

    private final Map<String, String> texts = new LinkedHashMap<>();
    private final Map<String, List<String>> unquoted = new LinkedHashMap<>();
    private String section = "";
    private String paragraph = "";

    Doc(Path path) throws IOException {
        for (String line : Files.readAllLines(path)) {
            read(line.replace("`", ""));
        }
        endParagraph();
    }

    private void read(String line) {
        if (line.startsWith("#") || line.equals(HEADING_WITHOUT_SIGN)) {
            endParagraph();
            section = line.replaceFirst("^#+ ", "").replaceFirst("^(Promise \\d+):.*", "$1");
        } else if (line.isBlank()) {
            endParagraph();
        } else {
            if (line.startsWith("- ") || line.startsWith("  ")) {
                endParagraph();
            }
            paragraph += " " + line.replaceFirst("^- ", "").strip();
        }
    }

    private void endParagraph() {
        String text = paragraph.strip().replaceAll("\\s+", " ").replaceFirst("^(int )?\\w+\\([^)]*\\): ", "");
        paragraph = "";
        if (!text.isEmpty()) {
            texts.merge(section, text, (before, more) -> before + " " + more);
            for (String clause : text.split("(?<=\\.) (?=[A-Za-z])|(?<=;) ")) {
                unquoted.computeIfAbsent(section, s -> new ArrayList<>()).add(clause.replaceFirst("[.;]$", ""));
            }
        }
    }

    /** Answers whether the words stand in the section. */
    boolean quote(String inSection, String words) {
        List<String> clauses = unquoted.get(inSection);
        if (clauses != null) {
            clauses.removeIf(clause -> clause.contains(words) || words.contains(clause));
        }
        return texts.getOrDefault(inSection, "").contains(words);
    }

    List<String> unquotedClauses() {
        List<String> all = new ArrayList<>();
        unquoted.forEach((name, clauses) -> clauses.forEach(clause -> all.add(name + ": " + clause)));
        return all;
    }
}
