import java.io.IOException;
import java.nio.file.Path;
import java.util.List;

/**
 * Each clause of the document that names a boundary case has a test of its own, by the clause's own words. At the end,
 * no words of the document may be left without a test but those that name no case.
 */
public final class EdgesTest {
    /** What words that need no test of their own begin with: headings, and what is free. */
    private static final List<String> NO_CASE = List.of(
            "What it is: A crib sheet that is folded into a booklet",
            "What it is: what later calls answer is free",
            "Terms: All numbers are whole",
            "Errors: Ahead of the calls setSheet,",
            "Errors: Ahead of the calls cut,",
            "Errors: Ahead of the calls see,",
            "Errors: Ahead of the calls take,",
            "Errors: Ahead of the calls append,",
            "Errors: Ahead of the calls count,",
            "The public face: ", "Not promised: ");
    /** What words that need no test of their own end with. */
    private static final List<String> NO_CASE_EITHER = List.of(": Returns the value", ": Returns the number");

    public static void main(String[] args) throws IOException {
        Due due = new Due();
        Doc doc = new Doc(Path.of("../shared/DOC.md"));
        Bench bench = new Bench(due, doc);
        SheetEdges.tests(bench);
        BookletEdges.tests(bench);
        OtherFoldsEdges.tests(bench);
        NotesEdges.tests(bench);
        StatesEdges.tests(bench);
        ProgramEdges.tests(bench);
        bench.endClause();
        due.of("the document");
        for (String words : doc.unquoted()) {
            due.holds("tested: " + words, NO_CASE.stream().anyMatch(words::startsWith)
                    || NO_CASE_EITHER.stream().anyMatch(words::endsWith));
        }
        due.end();
    }
}
