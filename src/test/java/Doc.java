import java.io.IOException;
import java.nio.file.Files;
import java.nio.file.Path;
import java.util.ArrayList;
import java.util.BitSet;
import java.util.LinkedHashMap;
import java.util.List;
import java.util.Map;
import java.util.regex.Matcher;
import java.util.regex.Pattern;

/** The document's sections, each a text, and which of its words have been quoted. */
final class Doc {
    private static final String HEADING_WITHOUT_SIGN = "Edges, cuts and staples";
    private static final Pattern CLAUSE = Pattern.compile(".+?(?:\\. (?=[A-Za-z])|; |$)");

    private final Map<String, String> texts = new LinkedHashMap<>();
    private final Map<String, BitSet> quoted = new LinkedHashMap<>();
    private String section = "";
    private String paragraph = "";

    Doc(Path path) throws IOException {
        for (String line : Files.readAllLines(path)) {
            if (!line.startsWith("```")) {
                read(line.replace("`", ""));
            }
        }
        endParagraph();
    }

    private void read(String line) {
        if (line.startsWith("#") || line.equals(HEADING_WITHOUT_SIGN)) {
            endParagraph();
            section = line.replaceFirst("^#+ ", "").replaceFirst("^(Promise \\d+):.*", "$1");
        } else if (line.isBlank()) {
            endParagraph();
        } else {
            if (line.startsWith("- ") || line.startsWith("  ")) {
                endParagraph();
            }
            paragraph += " " + line.replaceFirst("^- ", "").strip();
        }
    }

    private void endParagraph() {
        String text = paragraph.strip().replaceAll("\\s+", " ").replaceFirst("^(int )?\\w+\\([^)]*\\): ", "");
        paragraph = "";
        if (!text.isEmpty()) {
            texts.merge(section, text, (before, more) -> before + " " + more);
        }
    }

    /** Answers whether the words stand in the section. */
    boolean quote(String inSection, String words) {
        String text = texts.getOrDefault(inSection, "");
        int from = text.indexOf(words);
        if (from < 0) {
            return false;
        }
        quoted.computeIfAbsent(inSection, s -> new BitSet()).set(from, from + words.length());
        return true;
    }

    /** The words that have not been quoted, clause by clause. */
    List<String> unquoted() {
        List<String> all = new ArrayList<>();
        texts.forEach((name, text) -> {
            BitSet done = quoted.getOrDefault(name, new BitSet());
            Matcher clause = CLAUSE.matcher(text);
            while (clause.find()) {
                addUnquoted(name, text, done, clause.start(), clause.end(), all);
            }
        });
        return all;
    }

    private static void addUnquoted(String name, String text, BitSet done, int from, int end, List<String> all) {
        int at = done.nextClearBit(from);
        while (at < end) {
            int next = done.nextSetBit(at);
            int to = next < 0 || next > end ? end : next;
            String words = text.substring(at, to).replaceAll("^[^A-Za-z0-9]+|[^A-Za-z0-9)]+$", "");
            if (!words.isEmpty()) {
                all.add(name + ": " + words);
            }
            at = done.nextClearBit(to);
        }
    }
}
