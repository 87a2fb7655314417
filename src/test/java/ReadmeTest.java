import java.io.ByteArrayOutputStream;
import java.io.IOException;
import java.io.PrintStream;
import java.net.URL;
import java.net.URLClassLoader;
import java.nio.charset.StandardCharsets;
import java.nio.file.DirectoryStream;
import java.nio.file.Files;
import java.nio.file.Path;
import javax.tools.JavaCompiler;
import javax.tools.ToolProvider;

/** README.md tells how the class is used and how the tests are run: its example runs, and no name is left out. */
public final class ReadmeTest {
    private static final Due DUE = new Due();
    private static final Path TESTS = Path.of("src/test/java");

    public static void main(String[] args) throws Exception {
        DUE.of("README.md");
        String readme = Files.readString(Path.of("README.md"));
        example(block(readme, "java"), block(readme, "text"));
        names(readme, new Face(Path.of("../shared/DOC.md")));
        tests(readme);
        DUE.end();
    }

    /** The text of the only block of a kind. */
    private static String block(String readme, String kind) {
        String[] parts = readme.split("```" + kind + "\n", -1);
        DUE.is("blocks of " + kind, parts.length - 1, 1);
        return parts[parts.length - 1].split("```", 2)[0];
    }

    private static void example(String source, String shown) throws Exception {
        JavaCompiler compiler = ToolProvider.getSystemJavaCompiler();
        DUE.holds("there is a compiler", compiler != null);
        if (compiler == null) {
            return;
        }
        Path place = Files.createTempDirectory("example");
        Path file = Files.writeString(place.resolve("Example.java"), source);
        int failed = compiler.run(null, null, null, "-d", place.toString(),
                "-cp", System.getProperty("java.class.path"), file.toString());
        DUE.is("compiling the example", failed, 0);
        if (failed == 0) {
            String[] printed = outputOf(place).split("\n");
            String[] lines = shown.split("\n");
            DUE.is("lines that the example prints", printed.length, lines.length);
            for (int i = 0; i < Math.min(printed.length, lines.length); i++) {
                DUE.holds("the example prints \"" + printed[i] + "\" where \"" + lines[i] + "\" is shown",
                        printed[i].equals(lines[i]));
            }
        }
        try (DirectoryStream<Path> files = Files.newDirectoryStream(place)) {
            for (Path old : files) {
                Files.delete(old);
            }
        }
        Files.delete(place);
    }

    private static String outputOf(Path place) throws Exception {
        PrintStream before = System.out;
        ByteArrayOutputStream printed = new ByteArrayOutputStream();
        try (URLClassLoader loader = new URLClassLoader(new URL[] {place.toUri().toURL()})) {
            System.setOut(new PrintStream(printed, true, StandardCharsets.UTF_8));
            loader.loadClass("Example").getMethod("main", String[].class).invoke(null, (Object) new String[0]);
        } finally {
            System.setOut(before);
        }
        return printed.toString(StandardCharsets.UTF_8).replace(System.lineSeparator(), "\n");
    }

    private static void names(String readme, Face face) {
        for (Face.Constant constant : face.constants) {
            DUE.holds(constant.name() + " is named with its value",
                    readme.contains("| " + constant.value() + " | `" + constant.name() + "` |"));
        }
        for (Face.Row method : face.methods) {
            DUE.holds(method.use() + " is named", readme.contains("`" + method.use() + "`"));
        }
        DUE.holds("how all tests are run is told", readme.contains("```sh\n.ci/run\n```"));
    }

    private static void tests(String readme) throws IOException {
        try (DirectoryStream<Path> files = Files.newDirectoryStream(TESTS, "*.java")) {
            for (Path file : files) {
                String name = file.getFileName().toString().replace(".java", "");
                DUE.holds(name + " is named", readme.contains("`" + name + "`"));
            }
        }
    }
}
