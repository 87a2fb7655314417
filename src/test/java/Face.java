import java.io.IOException;
import java.nio.file.Files;
import java.nio.file.Path;
import java.util.ArrayList;
import java.util.List;
import java.util.regex.Matcher;
import java.util.regex.Pattern;

/** The public face as the document writes it: the lines of its code block, without the signs at their ends. */
final class Face {
    private static final Pattern CONSTANT = Pattern.compile("public static final int (\\w+) = (-?\\d+);");
    private static final Pattern METHOD = Pattern.compile("public int (\\w+)\\(([^)]*)\\);");

    /** A constant's name and its value. */
    record Constant(String name, int value) { }

    /** A method's line, its name and the names of its parameters, which are ints. */
    record Row(String line, String name, List<String> parameters) {
        String use() {
            return name + "(" + String.join(", ", parameters) + ")";
        }
    }

    final List<Constant> constants = new ArrayList<>();
    final List<Row> methods = new ArrayList<>();

    Face(Path document) throws IOException {
        boolean inside = false;
        for (String line : Files.readAllLines(document)) {
            if (line.startsWith("```")) {
                inside = line.equals("```java");
            } else if (inside) {
                read(line.strip());
            }
        }
        if (constants.isEmpty() || methods.isEmpty()) {
            throw new IOException("no face in " + document);
        }
    }

    private void read(String line) {
        Matcher constant = CONSTANT.matcher(line);
        if (constant.matches()) {
            constants.add(new Constant(constant.group(1), Integer.parseInt(constant.group(2))));
        }
        Matcher method = METHOD.matcher(line);
        if (method.matches()) {
            List<String> parameters = new ArrayList<>();
            for (String parameter : method.group(2).split(", ")) {
                if (!parameter.isEmpty()) {
                    parameters.add(parameter.replaceFirst("^int ", ""));
                }
            }
            methods.add(new Row(line.replaceFirst(";$", ""), method.group(1), parameters));
        }
    }
}
