import java.util.ArrayList;
import java.util.List;

/** The boundary cases of pages that were seen and of other folds: promises 12, 13 and 36 to 39 and their terms. */
final class OtherFoldsEdges {
    private static final String ONE = "setSheet(1, 1) ";
    /**
     * By 2 the pages are 0 to 3, all of them upright: the back and the front of column 1, the front and the back of
     * column 0; by 1 they are 3 to 0. By 2 the pages 1 and 2 are hidden, by 1 none is.
     */
    private static final String PAIR = "setSheet(1, 2) printAll(2) ";
    private static final String[] BUSY = {PAIR, PAIR + "fold(1) ", PAIR + "fold(1) cut(0) staple(3) ", PAIR + "fold(2) cut(1) "};

    private OtherFoldsEdges() {
    }

    static void tests(Bench b) {
        terms(b);
        see(b);
        forget(b);
        fitting(b);
        readsBy(b);
        cutsFor(b);
        best(b);
        bestOfAll(b);
    }

    private static void terms(Bench b) {
        b.term("Seen pages", "At most 8 sights are kept: that a page shows a number, which is seen upright or upside down");
        b.row(PAIR + "7*see(0, 0, 0) see(3, 3, 0)=8 see(3, 3, 0)=FULL count(8)=8 fitting(0)=1 fitting(1)=2");
        b.row(PAIR + "7*see(0, 0, 0) see(3, 0, 0)=8 fitting(0)=0 fitting(1)=NONE");
        b.row(PAIR + "see(3, 0, 0) 7*see(0, 0, 0) fitting(0)=0");
        b.row(PAIR + "see(0, 0, 0) fitting(0)=1 see(0, 0, 1) fitting(0)=0");
        b.term("Seen pages", "A row of folds fits if the open sheet, folded by it, with what is printed and the spine as it is,"
                + " would show all of this");
        b.row(PAIR + "fitting(0)=2 see(0, 0, 0) fitting(0)=1 fitting(1)=2 see(0, 3, 0) fitting(0)=0 forget() see(0, 3, 0) fitting(1)=1");
        b.row(PAIR + "see(1, 1, 0) setSpine(1) fitting(0)=0 setSpine(0) fitting(0)=1 print(0, 1, 0, -1, 0) fitting(0)=0");
        b.row(PAIR + "see(1, 1, 1) setSpine(1) fitting(1)=2 setSpine(0) fitting(1)=NONE print(0, 1, 0, 1, 1) fitting(1)=2");
        b.row(PAIR + "see(0, 0, 0) fold(1) cut(0) staple(9) fitting(0)=1 fitting(1)=2");
        b.row("setSheet(2, 1) printAll(4) see(0, 0, 0) fold(3) fitting(0)=1 fitting(1)=4");
        b.row(ONE + "see(0, 0, 0) fitting(0)=0 print(0, 0, 0, 0, 0) fitting(0)=1");
        b.term("Seen pages", "(whether a page is hidden plays no part)");
        b.row(PAIR + "see(1, 1, 0) see(2, 2, 0) fitting(0)=1 fitting(1)=2 fold(2) page(1, 5)=1 page(2, 5)=1 fitting(1)=2");
        b.term("Errors", "Ahead of the calls fitting, readsBy, cutsFor, best the interface says: ---- other folds, by which nothing"
                + " changes: always for the open sheet, as it is printed, without cuts");
        for (String busy : BUSY) {
            String first = busy + "see(0, 0, 0) ";
            b.row(first + "fitting(0)=1 fitting(1)=2 readsBy(2)=4 readsBy(1)=0 cutsFor(1)=0 cutsFor(2)=2 best(0)=1 best(1)=0 best(2)=0");
            b.looks(first, "fitting(0)", "fitting(2)", "readsBy(1)", "readsBy(2)", "cutsFor(2)", "cutsFor(1)", "best(0)", "best(2)");
        }
    }

    private static void see(Bench b) {
        b.promise(12, "Keeps a sight");
        b.row(PAIR + "see(0, 0, 0)=1 count(8)=1 fitting(1)=2");
        b.promise(12, "This is an action");
        b.action("", "see(15, 31, 1)");
        b.action("see(0, 0, 0)", "see(0, 0, 0)");
        b.promise(12, "page: 0 to twice the number of cells, less 1");
        b.range(ONE, "see(#, 0, 0)", 0, 1);
        b.range("setSheet(2, 1)", "see(#, 0, 0)", 0, 3);
        b.range("", "see(#, 0, 0)", 0, 15);
        b.range("setSheet(4, 4) fold(1)", "see(#, 0, 0)", 0, 31);
        b.promise(12, "number: 0 to 31");
        b.range(ONE, "see(0, #, 0)", 0, 31);
        b.promise(12, "turned: 1 if it is seen upside down, 0 if upright");
        b.range("", "see(0, 0, #)", 0, 1);
        b.row(ONE + "print(0, 0, 0, 5, 1) see(0, 5, 1) fitting(0)=1 see(0, 5, 0) fitting(0)=0");
        b.promise(12, "Returns the number of sights then");
        b.row("see(0, 0, 0)=1 see(0, 0, 0)=2 see(1, 1, 1)=3 see(2, 0, 0)=4 see(3, 0, 0)=5 see(4, 0, 0)=6 see(5, 0, 0)=7 see(15, 31, 1)=8");
        b.promise(12, "INVALID_ARGUMENT if an argument is out of range");
        b.rows(ONE + "8*see(0, 0, 0)", "see(2, 0, 0)=INVALID", "see(-1, 0, 0)=INVALID", "see(0, 32, 0)=INVALID", "see(0, -1, 0)=INVALID",
                "see(0, 0, 2)=INVALID", "see(0, 0, -1)=INVALID", "see(2, 32, 2)=INVALID", "see(0, NONE, 0)=INVALID");
        b.promise(12, "CAPACITY_EXCEEDED if there are 8");
        b.row("7*see(0, 0, 0) see(1, 0, 0)=8 see(2, 0, 0)=FULL see(0, 0, 0)=FULL forget()=8 see(2, 0, 0)=1");
    }

    private static void forget(Bench b) {
        b.promise(13, "Drops all sights");
        b.row(PAIR + "see(0, 9, 0) see(0, 0, 0) fitting(0)=0 forget() count(8)=0 fitting(0)=2 see(0, 0, 0)=1 fitting(0)=1");
        b.promise(13, "This is an action");
        b.action("", "forget()");
        b.action("8*see(0, 0, 0)", "forget()");
        b.promise(13, "Returns how many there were");
        b.row("forget()=0 see(0, 0, 0) forget()=1 forget()=0 8*see(1, 1, 1) forget()=8");
    }

    private static void fitting(Bench b) {
        b.promise(36, "Tells which rows of folds fit all sights");
        b.row(PAIR + "see(0, 0, 0) see(1, 1, 0) see(2, 2, 0) see(3, 3, 0) fitting(0)=1 fitting(1)=2 fitting(2)=2");
        b.promise(36, "what: 0 for how many do, 1 for the least of them, 2 for the greatest of them (each as a number)");
        b.range("", "fitting(#)", 0, 2);
        b.rows("", ONE + "fitting(0)=1 fitting(1)=0 fitting(2)=0", "setSheet(1, 2) fitting(0)=2 fitting(1)=1 fitting(2)=2",
                "setSheet(2, 1) fitting(0)=2 fitting(1)=3 fitting(2)=4", "setSheet(2, 2) fitting(0)=8 fitting(1)=13 fitting(2)=42",
                "setSheet(1, 4) fitting(0)=4 fitting(1)=11 fitting(2)=22", "setSheet(4, 1) fitting(0)=4 fitting(1)=33 fitting(2)=44",
                "fitting(0)=24 fitting(1)=113 fitting(2)=422", "setSheet(4, 2) fitting(0)=24 fitting(1)=133 fitting(2)=442",
                "setSheet(4, 4) fitting(0)=96 fitting(1)=1133 fitting(2)=4422");
        b.promise(36, "INVALID_ARGUMENT if what is out of range");
        b.rows(ONE + "see(0, 0, 0)", "fitting(3)=INVALID", "fitting(-1)=INVALID");
        b.promise(36, "NONE if none does (for 1 and 2)");
        b.row(ONE + "see(0, 0, 0) fitting(0)=0 fitting(1)=NONE fitting(2)=NONE printAll(0) fitting(0)=1 fitting(1)=0 fitting(2)=0");
    }

    private static void readsBy(Bench b) {
        b.promise(37, "Tells how many pages, one after another from page 0 on, would have their own numbers, seen upright,"
                + " by a row of folds");
        b.row("setSheet(1, 2) readsBy(1)=0 readsBy(2)=0 printAll(1) readsBy(1)=4 readsBy(2)=0");
        b.rows(PAIR, "print(0, 1, 1, -1, 0) readsBy(2)=0", "print(0, 1, 1, 0, 1) readsBy(2)=0", "print(0, 1, 0, 2, 0) readsBy(2)=1",
                "print(0, 0, 0, -1, 0) readsBy(2)=2", "print(0, 0, 1, 3, 1) readsBy(2)=3", "setSpine(1) readsBy(2)=1");
        b.promise(37, "(whether they are hidden plays no part)");
        b.row(PAIR + "readsBy(2)=4 fold(2) reading(0)=1 readsBy(2)=4");
        b.row("setSheet(4, 4) printAll(4422) readsBy(4422)=32 fold(4) fold(4) fold(2) fold(2) reading(0)=1 readsBy(4422)=32");
        b.promise(37, "folds: a row of folds, as a number");
        SheetEdges.rowsOfFolds(b, "readsBy");
        b.promise(37, "Returns the number of pages");
        b.rows("", ONE + "readsBy(0)=0", ONE + "printAll(0) readsBy(0)=2", ONE + "print(0, 0, 0, 0, 0) readsBy(0)=1",
                "setSheet(4, 4) printAll(1133) readsBy(1133)=32");
        b.promise(37, "INVALID_ARGUMENT if this is no row of folds that makes a booklet of the open sheet");
        b.rows(PAIR, "readsBy(0)=INVALID", "readsBy(3)=INVALID", "readsBy(11)=INVALID", "readsBy(10)=INVALID", "readsBy(-1)=INVALID",
                "readsBy(MIN)=INVALID", "readsBy(MAX)=INVALID", "fold(2) readsBy(0)=INVALID readsBy(2)=4");
        b.rows("setSheet(4, 4)", "readsBy(11133)=INVALID", "readsBy(113)=INVALID", "readsBy(1113)=INVALID", "readsBy(1013)=INVALID",
                "readsBy(5133)=INVALID", "readsBy(11330)=INVALID");
    }

    private static void cutsFor(Bench b) {
        b.promise(38, "Tells at which edges, but that of the spine, the booklet would have to be cut so that no page is hidden,"
                + " by a row of folds: all along which leaves would hang together");
        int[][] sheets = {{1, 1}, {1, 2}, {2, 1}, {2, 2}, {4, 1}, {1, 4}, {2, 4}, {4, 2}};
        for (int[] sheet : sheets) {
            for (int folds : allRows(sheet[0], sheet[1])) {
                for (int spine = 0; spine < 2; spine++) {
                    cutSoThatNoneIsHidden(b, sheet, folds, spine);
                }
            }
        }
        cutSoThatNoneIsHidden(b, new int[] {4, 4}, 1133, 0);
        cutSoThatNoneIsHidden(b, new int[] {4, 4}, 4231, 1);
        b.promise(38, "folds: a row of folds, as a number");
        SheetEdges.rowsOfFolds(b, "cutsFor");
        b.promise(38, "Returns the set of edges");
        b.rows("", ONE + "cutsFor(0)=0 setSpine(1) cutsFor(0)=0", "setSheet(1, 2) cutsFor(1)=0 cutsFor(2)=2 setSpine(1) cutsFor(1)=1 cutsFor(2)=2",
                "setSheet(2, 1) cutsFor(3)=4 cutsFor(4)=8 setSpine(1) cutsFor(3)=0 cutsFor(4)=8",
                "setSheet(4, 4) cutsFor(1133)=14 cutsFor(4422)=14 setSpine(1) cutsFor(1133)=11 cutsFor(4422)=11");
        b.promise(38, "INVALID_ARGUMENT if this is no row of folds that makes a booklet of the open sheet");
        b.rows(PAIR, "cutsFor(0)=INVALID", "cutsFor(3)=INVALID", "cutsFor(11)=INVALID", "cutsFor(10)=INVALID", "cutsFor(-1)=INVALID",
                "cutsFor(MIN)=INVALID", "cutsFor(MAX)=INVALID", "fold(2) cut(1) cutsFor(0)=INVALID cutsFor(2)=2");
    }

    private static void cutSoThatNoneIsHidden(Bench b, int[] sheet, int folds, int spine) {
        CribBooklet x = new CribBooklet();
        x.setSheet(sheet[0], sheet[1]);
        x.setSpine(spine);
        int edges = x.cutsFor(folds);
        for (char fold : ("" + folds).replace("0", "").toCharArray()) {
            x.fold(fold - '0');
        }
        int shut = 0;
        for (int opening = 0; opening <= x.count(3); opening++) {
            shut |= x.opening(opening, 1);
        }
        String what = folds + " on " + sheet[0] + " by " + sheet[1] + ", spine " + spine;
        b.is("cutsFor " + what, edges, shut);
        for (int edge = 0; edge < 4; edge++) {
            if ((edges >> edge & 1) == 1) {
                x.cut(edge);
            }
        }
        for (int page = 0; page < 2 * x.count(3); page++) {
            b.is("page " + page + " is hidden by " + what, x.page(page, 5), 0);
        }
    }

    /** All rows of folds of a sheet, by ascending numbers. */
    private static List<Integer> allRows(int rows, int columns) {
        List<Integer> all = new ArrayList<>();
        for (int number = 0; number <= 4444; number++) {
            if (SheetEdges.isRowOfFolds(number, rows, columns)) {
                all.add(number);
            }
        }
        return all;
    }

    private static void best(Bench b) {
        b.promise(39, "Finds the best row of folds: that with the fewest edges by cutsFor()");
        b.row("setSheet(1, 2) best(0)=1 printAll(2) best(0)=1 best(1)=0 best(2)=0 readsBy(2)=4");
        b.row("setSheet(2, 1) setSpine(1) best(0)=3 printAll(4) best(0)=3 best(1)=0 best(2)=0");
        // By 411 the bottom edge holds leaves, by 113 the spine's, the top one, does.
        b.row("setSpine(1) printAll(411) best(1)=2 cutsFor(411)=11 readsBy(411)=16 cutsFor(113)=3");
        b.promise(39, "of several that with the most pages by readsBy()");
        b.row("setSheet(1, 2) setSpine(1) best(0)=1 printAll(2) best(0)=2 best(1)=1 best(2)=4");
        b.row("setSheet(1, 2) setSpine(1) print(0, 1, 1, 0, 0) best(0)=2 best(2)=1");
        b.row("setSheet(4, 4) printAll(4422) best(0)=4422 best(1)=3 best(2)=32");
        b.row("setSheet(4, 4) printAll(1133) best(0)=1133 best(2)=32");
        b.promise(39, "of several the least number");
        b.rows("", "setSheet(1, 2) setSpine(1) best(0)=1", "setSheet(4, 1) best(0)=33", "setSheet(1, 4) best(0)=11", "setSheet(4, 4) best(0)=1133",
                "setSheet(2, 1) best(0)=3", "best(0)=113", "setSheet(4, 2) best(0)=133");
        b.promise(39, "what: 0 for the row of folds, as a number, 1 for the number of edges, 2 for the number of pages");
        b.range("", "best(#)", 0, 2);
        b.rows("", ONE + "best(0)=0 best(1)=0 best(2)=0 printAll(0) best(0)=0 best(1)=0 best(2)=2 print(0, 0, 1, -1, 0) best(2)=1",
                "setSheet(4, 4) best(1)=3 best(2)=0 setSpine(1) best(1)=3");
        b.promise(39, "INVALID_ARGUMENT if what is out of range");
        b.rows(ONE, "best(3)=INVALID", "best(-1)=INVALID");
    }

    private static void bestOfAll(Bench b) {
        b.promise(39, "Finds the best row of folds");
        int[][] sheets = {{1, 1, 0}, {1, 2, 2}, {2, 1, 3}, {2, 2, 31}, {1, 4, 21}, {4, 1, 44}, {2, 4, 142}, {4, 2, 323}, {4, 4, 2341}};
        for (int[] sheet : sheets) {
            for (int spine = 0; spine < 2; spine++) {
                for (int print = 0; print < 3; print++) {
                    CribBooklet x = new CribBooklet();
                    x.setSheet(sheet[0], sheet[1]);
                    x.setSpine(spine);
                    if (print > 0) {
                        x.printAll(sheet[2]);
                    }
                    if (print > 1) {
                        x.setSpine(1 - spine);
                    }
                    isBest(b, x, allRows(sheet[0], sheet[1]));
                }
            }
        }
    }

    private static void isBest(Bench b, CribBooklet x, List<Integer> rows) {
        int best = -1;
        int edges = 9;
        int pages = -1;
        for (int row : rows) {
            int rowEdges = Integer.bitCount(x.cutsFor(row));
            int rowPages = x.readsBy(row);
            if (rowEdges < edges || rowEdges == edges && rowPages > pages) {
                best = row;
                edges = rowEdges;
                pages = rowPages;
            }
        }
        b.is("best(0)", x.best(0), best);
        b.is("best(1)", x.best(1), edges);
        b.is("best(2)", x.best(2), pages);
    }
}
