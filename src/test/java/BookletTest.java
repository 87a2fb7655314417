/** Promises 8 to 13, 26 to 32 and 35 to 39: the booklet, sights, effort, other folds. */
public final class BookletTest {
    private static final Due DUE = new Due();
    private static final int INVALID = -1;
    private static final int ILLEGAL = -2;
    private static final int FULL = -3;
    private static final int NONE = -9;
    private static final int MIN = Integer.MIN_VALUE;
    private static final int MAX = Integer.MAX_VALUE;

    public static void main(String[] args) {
        cut();
        staple();
        unstaple();
        setLegs();
        see();
        forget();
        page();
        opening();
        hanging();
        together();
        pieces();
        reading();
        pageOf();
        effort();
        fitting();
        readsBy();
        cutsFor();
        best();
        DUE.end();
    }

    private static CribBooklet booklet(int rows, int columns, int... folds) {
        CribBooklet x = new CribBooklet();
        x.setSheet(rows, columns);
        for (int fold : folds) {
            x.fold(fold);
        }
        return x;
    }

    /** Leaves: columns 2, 1, 0, 3; leaves 1 and 2 hang together left, leaves 0 and 3 too, leaves 0 and 1 right. */
    private static CribBooklet strip() {
        return booklet(1, 4, 1, 1);
    }

    private static void cut() {
        DUE.of("promise 8");
        CribBooklet x = booklet(1, 4, 1);
        DUE.is("cut(0) of no booklet", x.cut(0), ILLEGAL);
        DUE.is("cut(4) of no booklet", x.cut(4), INVALID);
        x.fold(1);
        DUE.is("cut(-1)", x.cut(-1), INVALID);
        DUE.is("cut(4)", x.cut(4), INVALID);
        DUE.is("cut(MAX)", x.cut(MAX), INVALID);
        DUE.is("cut(0)", x.cut(0), 2);
        DUE.is("cut(0) again", x.cut(0), ILLEGAL);
        DUE.is("cut(1)", x.cut(1), 1);
        DUE.is("cut(2)", x.cut(2), 0);
        DUE.is("cuts", x.count(6), 7);
        DUE.is("effort", x.effort(2), 12);
        DUE.is("fold when cut", x.fold(1), ILLEGAL);
        DUE.is("unfold when cut", x.unfold(), ILLEGAL);
        x = booklet(1, 1);
        DUE.is("cut(3) of one cell", x.cut(3), 0);
        DUE.is("effort of one cell", x.effort(2), 1);
        x = booklet(2, 1, 3);
        DUE.is("cut(2) by 3", x.cut(2), 1);
        x = booklet(2, 1, 4);
        DUE.is("cut(2) by 4", x.cut(2), 0);
        DUE.is("cut(3) by 4", x.cut(3), 1);
    }

    private static void staple() {
        DUE.of("promise 9");
        CribBooklet x = booklet(1, 4, 1);
        DUE.is("staple(0) of no booklet", x.staple(0), ILLEGAL);
        DUE.is("staple(10) of no booklet", x.staple(10), INVALID);
        x.fold(2);
        DUE.is("staple(-1)", x.staple(-1), INVALID);
        DUE.is("staple(10)", x.staple(10), INVALID);
        x.setLegs(3);
        DUE.is("staple(9)", x.staple(9), 3);
        DUE.is("staple(9) again", x.staple(9), ILLEGAL);
        x.setLegs(5);
        DUE.is("staple(0)", x.staple(0), 4);
        x.setLegs(4);
        DUE.is("staple(5)", x.staple(5), 4);
        DUE.is("staple(5), of two errors", x.staple(5), ILLEGAL);
        DUE.is("staple(1), a fourth one", x.staple(1), FULL);
        DUE.is("effort", x.effort(3), 9);
        DUE.is("fold when stapled", x.fold(1), ILLEGAL);
        x = booklet(1, 1);
        DUE.is("staple(0) of one cell", x.staple(0), 1);
    }

    private static void unstaple() {
        DUE.of("promise 10");
        CribBooklet x = booklet(1, 1);
        DUE.is("unstaple(10)", x.unstaple(10), INVALID);
        DUE.is("unstaple(-1)", x.unstaple(-1), INVALID);
        DUE.is("unstaple(0)", x.unstaple(0), ILLEGAL);
        x.staple(0);
        x.staple(9);
        DUE.is("unstaple(0) of two", x.unstaple(0), 1);
        DUE.is("unstaple(0) again", x.unstaple(0), ILLEGAL);
        DUE.is("unstaple(9)", x.unstaple(9), 0);
        DUE.is("effort", x.effort(3), 3 + 3 + 1 + 1);
        DUE.is("print then", x.print(0, 0, 0, 0, 0), NONE);
        x = booklet(2, 4);
        DUE.is("unstaple(3) of no booklet", x.unstaple(3), ILLEGAL);
    }

    private static void setLegs() {
        DUE.of("promise 11");
        CribBooklet x = booklet(4, 4);
        DUE.is("setLegs(0)", x.setLegs(0), INVALID);
        DUE.is("setLegs(17)", x.setLegs(17), INVALID);
        DUE.is("setLegs(MIN)", x.setLegs(MIN), INVALID);
        DUE.is("setLegs(16)", x.setLegs(16), 4);
        DUE.is("setLegs(1)", x.setLegs(1), 16);
        for (int fold : new int[] {1, 3, 1, 3}) {
            x.fold(fold);
        }
        for (int edge = 0; edge < 4; edge++) {
            x.cut(edge);
        }
        DUE.is("staple(0)", x.staple(0), 1);
        DUE.is("pieces with legs 1", x.pieces(), 16);
        DUE.is("setLegs(2) of a staple that is set", x.setLegs(2), 1);
        DUE.is("pieces with legs 2", x.pieces(), 15);
        x.setLegs(16);
        DUE.is("pieces with legs 16", x.pieces(), 1);
    }

    private static void see() {
        DUE.of("promise 12");
        CribBooklet x = booklet(1, 2);
        int[][] wrong = {{4, 0, 0}, {-1, 0, 0}, {0, 32, 0}, {0, -1, 0}, {0, 0, 2}, {0, 0, -1}, {MAX, 0, 0}, {0, MIN, 0}};
        for (int[] a : wrong) {
            DUE.is("see of " + java.util.Arrays.toString(a), x.see(a[0], a[1], a[2]), INVALID);
        }
        for (int i = 1; i <= 8; i++) {
            DUE.is("see(3, 31, 1), time " + i, x.see(3, 31, 1), i);
        }
        DUE.is("see, a ninth", x.see(0, 0, 0), FULL);
        DUE.is("see wrongly, a ninth", x.see(4, 0, 0), INVALID);
        x = booklet(4, 4, 1);
        DUE.is("see(31, 0, 0) of a folded sheet", x.see(31, 0, 0), 1);
        DUE.is("see(32, 0, 0)", x.see(32, 0, 0), INVALID);
        x = booklet(1, 1);
        DUE.is("see(1, 0, 0) of one cell", x.see(1, 0, 0), 1);
        DUE.is("see(2, 0, 0) of one cell", x.see(2, 0, 0), INVALID);
    }

    private static void forget() {
        DUE.of("promise 13");
        CribBooklet x = booklet(1, 2);
        DUE.is("forget() of nothing", x.forget(), 0);
        DUE.is("states", x.count(11), 2);
        x.see(0, 0, 0);
        x.see(1, 1, 1);
        DUE.is("fitting(0)", x.fitting(0), 0);
        DUE.is("forget()", x.forget(), 2);
        DUE.is("sights", x.count(8), 0);
        DUE.is("fitting(0) then", x.fitting(0), 2);
        x.undo();
        DUE.is("sights again", x.count(8), 2);
    }

    /** What page() answers for 0 to 6. */
    private static void pageIs(CribBooklet x, int page, int... due) {
        for (int what = 0; what < due.length; what++) {
            DUE.is("page(" + page + ", " + what + ")", x.page(page, what), due[what]);
        }
    }

    private static void page() {
        DUE.of("promise 26");
        CribBooklet x = booklet(2, 2);
        DUE.is("page(0, 0) of no booklet", x.page(0, 0), ILLEGAL);
        DUE.is("page(99, 99) of no booklet", x.page(99, 99), ILLEGAL);
        x.print(1, 1, 1, 0, 1);
        x.print(1, 1, 0, 3, 1);
        x.print(1, 0, 0, 2, 0);
        x.print(0, 1, 1, 7, 0);
        x.fold(1);
        x.fold(4);
        // Leaves: (1, 1) upside down, (1, 0) upside down and mirrored, (0, 0) mirrored, (0, 1).
        // Bonds: right of (1, 0) left, leaves 0 and 1; right of (0, 0) left, leaves 2 and 3;
        // below (0, 0) bottom, leaves 1 and 2; below (0, 1) bottom, leaves 0 and 3.
        pageIs(x, 0, 1, 1, 1, 0, 1, 0, 1);
        pageIs(x, 1, 1, 1, 0, 3, 1, 1, 0);
        pageIs(x, 2, 1, 0, 0, 2, 0, 1, 0);
        pageIs(x, 3, 1, 0, 1, NONE, NONE, 1, 0);
        pageIs(x, 4, 0, 0, 1, NONE, NONE, 1, 0);
        pageIs(x, 5, 0, 0, 0, NONE, NONE, 1, 0);
        pageIs(x, 6, 0, 1, 0, NONE, NONE, 1, 0);
        pageIs(x, 7, 0, 1, 1, 7, 1, 0, 1);
        x.setSpine(1);
        DUE.is("page(0, 4), spine at the top", x.page(0, 4), 1);
        DUE.is("page(1, 4), spine at the top", x.page(1, 4), 0);
        DUE.is("page(7, 4), spine at the top", x.page(7, 4), 0);
        DUE.is("page(7, 6), spine at the top", x.page(7, 6), 0);
        x.setSpine(0);
        x.cut(3);
        DUE.is("page(3, 5) when cut", x.page(3, 5), 0);
        int[][] wrong = {{8, 0}, {-1, 0}, {0, 8}, {0, -1}, {MAX, 0}, {MIN, 0}, {0, MAX}};
        for (int[] a : wrong) {
            DUE.is("page(" + a[0] + ", " + a[1] + ")", x.page(a[0], a[1]), INVALID);
        }
        x = booklet(1, 1);
        x.print(0, 0, 1, 1, 0);
        pageIs(x, 1, 0, 0, 1, 1, 1, 0, 1);
        takenLines();
    }

    private static void takenLines() {
        CribBooklet x = strip();
        x.addNote(1, 1, 8, 0);
        x.addNote(1, 0, 7, 1);
        // Page 0 has five lines, pages 1 and 2 are hidden, pages 3 and 4 have five each, and so on.
        int[] due = {5, 0, 0, 5, 5, 0, 0, 0};
        for (int page = 0; page < 8; page++) {
            DUE.is("page(" + page + ", 7)", x.page(page, 7), due[page]);
        }
        x.removeNote(1);
        int[] then = {5, 0, 0, 3, 0, 0, 0, 0};
        for (int page = 0; page < 8; page++) {
            DUE.is("page(" + page + ", 7) then", x.page(page, 7), then[page]);
        }
    }

    private static void openingIs(CribBooklet x, int[] edges, int[] lines) {
        for (int k = 0; k < edges.length; k++) {
            DUE.is("opening(" + k + ", 0)", x.opening(k, 0), edges[k] == 0 ? 0 : 1);
            DUE.is("opening(" + k + ", 1)", x.opening(k, 1), edges[k]);
            DUE.is("opening(" + k + ", 2)", x.opening(k, 2), lines[k]);
        }
        int[][] wrong = {{edges.length, 0}, {-1, 0}, {0, 3}, {0, -1}, {MAX, 0}, {0, MIN}};
        for (int[] a : wrong) {
            DUE.is("opening(" + a[0] + ", " + a[1] + ")", x.opening(a[0], a[1]), INVALID);
        }
    }

    private static void opening() {
        DUE.of("promise 27");
        CribBooklet x = booklet(1, 4, 1);
        DUE.is("opening(0, 0) of no booklet", x.opening(0, 0), ILLEGAL);
        DUE.is("opening(-1, 9) of no booklet", x.opening(-1, 9), ILLEGAL);
        x.fold(1);
        openingIs(x, new int[] {0, 2, 0, 0, 0}, new int[] {5, 0, 10, 10, 5});
        x.setSpine(1);
        openingIs(x, new int[] {0, 3, 1, 1, 0}, new int[] {5, 0, 0, 0, 5});
        x.setLines(9);
        x.cut(0);
        openingIs(x, new int[] {0, 2, 0, 0, 0}, new int[] {9, 0, 18, 18, 9});
        x.cut(1);
        openingIs(x, new int[] {0, 0, 0, 0, 0}, new int[] {9, 18, 18, 18, 9});
        openingIs(booklet(1, 1), new int[] {0, 0}, new int[] {5, 5});
        openingIs(booklet(2, 1, 3), new int[] {0, 4, 0}, new int[] {5, 0, 5});
        x = booklet(2, 1, 3);
        x.setSpine(1);
        openingIs(x, new int[] {0, 0, 0}, new int[] {5, 10, 5});
        x = booklet(2, 1, 4);
        x.setSpine(1);
        openingIs(x, new int[] {0, 8, 0}, new int[] {5, 0, 5});
    }

    private static void hanging() {
        DUE.of("promise 28");
        CribBooklet x = booklet(1, 4, 1);
        DUE.is("hanging(0) of no booklet", x.hanging(0), ILLEGAL);
        DUE.is("hanging(9) of no booklet", x.hanging(9), ILLEGAL);
        x.fold(1);
        DUE.is("hanging(-1)", x.hanging(-1), INVALID);
        DUE.is("hanging(4)", x.hanging(4), INVALID);
        DUE.is("hanging(0)", x.hanging(0), 2);
        DUE.is("hanging(1)", x.hanging(1), 1);
        DUE.is("hanging(2)", x.hanging(2), 0);
        DUE.is("hanging(3)", x.hanging(3), 0);
        x.cut(0);
        DUE.is("hanging(0) when cut", x.hanging(0), 0);
        DUE.is("hanging(1) when cut elsewhere", x.hanging(1), 1);
        x = booklet(4, 1, 4, 4);
        // Leaves: rows 1, 2, 3, 0; right side up 2 and 0.
        DUE.is("hanging(2) by 44", x.hanging(2), 1);
        DUE.is("hanging(3) by 44", x.hanging(3), 2);
        for (int edge = 0; edge < 4; edge++) {
            DUE.is("hanging(" + edge + ") of one cell", booklet(1, 1).hanging(edge), 0);
        }
    }

    private static void together() {
        DUE.of("promise 29");
        CribBooklet x = booklet(1, 4, 1);
        DUE.is("together(0, 1) of no booklet", x.together(0, 1), ILLEGAL);
        DUE.is("together(0, 0) of no booklet", x.together(0, 0), ILLEGAL);
        x.fold(1);
        int[][] due = {{0, 2, 0, 1}, {2, 0, 1, 0}, {0, 1, 0, 0}, {1, 0, 0, 0}};
        for (int one = 0; one < 4; one++) {
            for (int other = 0; other < 4; other++) {
                DUE.is("together(" + one + ", " + other + ")", x.together(one, other),
                        one == other ? INVALID : due[one][other]);
            }
        }
        int[][] wrong = {{4, 0}, {0, 4}, {-1, 0}, {0, -1}, {MAX, 0}, {0, MIN}, {4, 4}};
        for (int[] a : wrong) {
            DUE.is("together(" + a[0] + ", " + a[1] + ")", x.together(a[0], a[1]), INVALID);
        }
        x.cut(1);
        DUE.is("together(0, 1) when cut", x.together(0, 1), 0);
        DUE.is("together(1, 2) when cut elsewhere", x.together(1, 2), 1);
        DUE.is("together(0, 1) by 3", booklet(2, 1, 3).together(0, 1), 4);
        DUE.is("together(1, 0) by 4", booklet(2, 1, 4).together(1, 0), 8);
    }

    private static void pieces() {
        DUE.of("promise 30");
        CribBooklet x = booklet(1, 4, 1);
        DUE.is("pieces() of no booklet", x.pieces(), ILLEGAL);
        x.fold(1);
        DUE.is("pieces()", x.pieces(), 1);
        x.cut(1);
        DUE.is("pieces() when cut right", x.pieces(), 2);
        x.cut(0);
        DUE.is("pieces() when cut left", x.pieces(), 4);
        x.setLegs(3);
        x.staple(1);
        DUE.is("pieces() with a staple", x.pieces(), 2);
        x.staple(2);
        DUE.is("pieces() with another staple", x.pieces(), 2);
        x.setLegs(1);
        DUE.is("pieces() with short legs", x.pieces(), 4);
        DUE.is("pieces() of one cell", booklet(1, 1).pieces(), 1);
        x = booklet(2, 2, 1, 4);
        x.cut(0);
        DUE.is("pieces() by way of the bottom", x.pieces(), 2);
        x.setLegs(2);
        x.staple(0);
        DUE.is("pieces() by way of a staple", x.pieces(), 1);
    }

    private static void readingIs(CribBooklet x, int many, int page, int why) {
        DUE.is("reading(0)", x.reading(0), many);
        DUE.is("reading(1)", x.reading(1), page);
        DUE.is("reading(2)", x.reading(2), why);
    }

    private static void reading() {
        DUE.of("promise 31");
        CribBooklet x = booklet(1, 2);
        DUE.is("reading(0) of no booklet", x.reading(0), ILLEGAL);
        DUE.is("reading(3) of no booklet", x.reading(3), ILLEGAL);
        x.printAll(1);
        x.fold(1);
        DUE.is("reading(-1)", x.reading(-1), INVALID);
        DUE.is("reading(3)", x.reading(3), INVALID);
        readingIs(x, 4, NONE, NONE);
        x.setSpine(1);
        readingIs(x, 1, 1, 1);
        x.cut(0);
        readingIs(x, 1, 1, 4);
        x = booklet(1, 2);
        x.printAll(1);
        x.print(0, 1, 0, 3, 0);
        x.fold(1);
        readingIs(x, 2, 2, 3);
        x = booklet(1, 2);
        x.printAll(1);
        x.print(0, 1, 1, 3, 1);
        x.fold(1);
        readingIs(x, 3, 3, 4);
        x = booklet(1, 2);
        x.printAll(1);
        x.print(0, 0, 1, -1, 0);
        x.fold(1);
        readingIs(x, 0, 0, 2);
        x = booklet(1, 2);
        x.print(0, 1, 1, 0, 1);
        x.fold(2);
        // By 2 leaf 0 is column 1: its back is page 0, and the leaves shut the book at the right.
        readingIs(x, 0, 0, 4);
        x = booklet(1, 2);
        x.print(0, 1, 1, 0, 0);
        x.fold(2);
        readingIs(x, 1, 1, 1);
    }

    private static void pageOf() {
        DUE.of("promise 32");
        CribBooklet x = booklet(1, 2);
        x.print(0, 0, 0, 31, 0);
        x.print(0, 1, 1, 31, 1);
        x.print(0, 1, 0, 0, 0);
        DUE.is("pageOf(31) of no booklet", x.pageOf(31), ILLEGAL);
        DUE.is("pageOf(32) of no booklet", x.pageOf(32), ILLEGAL);
        x.fold(1);
        DUE.is("pageOf(31) by 1", x.pageOf(31), 1);
        DUE.is("pageOf(0) by 1", x.pageOf(0), 2);
        DUE.is("pageOf(1) by 1", x.pageOf(1), NONE);
        DUE.is("pageOf(-1)", x.pageOf(-1), INVALID);
        DUE.is("pageOf(32)", x.pageOf(32), INVALID);
        DUE.is("pageOf(NONE)", x.pageOf(NONE), INVALID);
        x.unfold();
        x.fold(2);
        DUE.is("pageOf(31) by 2", x.pageOf(31), 0);
        DUE.is("pageOf(0) by 2, hidden", x.pageOf(0), 1);
        x.unfold();
        x.print(0, 0, 1, 5, 0);
        x.fold(2);
        DUE.is("pageOf(5), the last page", x.pageOf(5), 3);
    }

    private static void effort() {
        DUE.of("promise 35");
        CribBooklet x = booklet(1, 2);
        DUE.is("effort(-1)", x.effort(-1), INVALID);
        DUE.is("effort(5)", x.effort(5), INVALID);
        x.printAll(1);
        x.fold(1);
        x.unfold();
        x.fold(2);
        x.cut(0);
        x.staple(1);
        x.unstaple(1);
        x.staple(1);
        int[] due = {3, 4, 2, 7, 16};
        for (int kind = 0; kind <= 4; kind++) {
            DUE.is("effort(" + kind + ")", x.effort(kind), due[kind]);
        }
        x.staple(1);
        DUE.is("effort(3) behind a failure", x.effort(3), 7);
        x.undo();
        DUE.is("effort(3) behind undo", x.effort(3), 4);
    }

    private static void fitting() {
        DUE.of("promise 36");
        CribBooklet x = booklet(1, 4);
        DUE.is("fitting(-1)", x.fitting(-1), INVALID);
        DUE.is("fitting(3)", x.fitting(3), INVALID);
        DUE.is("fitting(0) without sights", x.fitting(0), 4);
        DUE.is("fitting(1) without sights", x.fitting(1), 11);
        DUE.is("fitting(2) without sights", x.fitting(2), 22);
        // Leaf 0 by 11 is column 2, by 12 column 3, by 21 column 0, by 22 column 1; all of them show their backs.
        x.printAll(12);
        x.see(0, 0, 0);
        DUE.is("fitting(0)", x.fitting(0), 1);
        DUE.is("fitting(1)", x.fitting(1), 12);
        DUE.is("fitting(2)", x.fitting(2), 12);
        x.forget();
        x.see(0, 0, 1);
        DUE.is("fitting(0), seen upside down", x.fitting(0), 0);
        DUE.is("fitting(1), seen upside down", x.fitting(1), NONE);
        DUE.is("fitting(2), seen upside down", x.fitting(2), NONE);
        x.forget();
        x.print(0, 2, 1, 8, 1);
        x.print(0, 1, 1, 8, 1);
        x.see(0, 8, 1);
        DUE.is("fitting(0) of two", x.fitting(0), 2);
        DUE.is("fitting(1) of two", x.fitting(1), 11);
        DUE.is("fitting(2) of two", x.fitting(2), 22);
        x.setSpine(1);
        DUE.is("fitting(0), page 0, spine at the top", x.fitting(0), 2);
        x.fold(2);
        x.fold(1);
        x.cut(0);
        DUE.is("fitting(0) when folded and cut", x.fitting(0), 2);
        x = booklet(1, 1);
        DUE.is("fitting(0) of one cell", x.fitting(0), 1);
        DUE.is("fitting(2) of one cell", x.fitting(2), 0);
        x.see(1, 4, 0);
        DUE.is("fitting(0), nothing printed", x.fitting(0), 0);
        x.print(0, 0, 1, 4, 0);
        DUE.is("fitting(1) of one cell", x.fitting(1), 0);
        x.setSpine(1);
        DUE.is("fitting(1), spine at the top", x.fitting(1), NONE);
        DUE.is("fitting(0) of the first sheet", new CribBooklet().fitting(0), 24);
    }

    private static void readsBy() {
        DUE.of("promise 37");
        CribBooklet x = booklet(1, 2);
        for (int folds : new int[] {0, 3, 11, -1, 12, 10, 5, MIN, MAX}) {
            DUE.is("readsBy(" + folds + ")", x.readsBy(folds), INVALID);
        }
        DUE.is("readsBy(1) of nothing", x.readsBy(1), 0);
        x.printAll(2);
        x.fold(1);
        DUE.is("readsBy(2), hidden or not", x.readsBy(2), 4);
        DUE.is("readsBy(1)", x.readsBy(1), 0);
        DUE.is("reading(0)", x.reading(0), 0);
        x.setSpine(1);
        DUE.is("readsBy(2), spine at the top", x.readsBy(2), 1);
        x.unfold();
        x.printAll(2);
        x.print(0, 0, 1, 30, 0);
        DUE.is("readsBy(2) but the last page", x.readsBy(2), 3);
        x = booklet(1, 1);
        x.printAll(0);
        DUE.is("readsBy(0) of one cell", x.readsBy(0), 2);
        DUE.is("readsBy(1) of one cell", x.readsBy(1), INVALID);
    }

    private static void cutsFor() {
        DUE.of("promise 38");
        CribBooklet x = booklet(1, 2);
        for (int folds : new int[] {0, 4, 22, -2, MIN, MAX}) {
            DUE.is("cutsFor(" + folds + ")", x.cutsFor(folds), INVALID);
        }
        DUE.is("cutsFor(1)", x.cutsFor(1), 0);
        DUE.is("cutsFor(2)", x.cutsFor(2), 2);
        x.setSpine(1);
        DUE.is("cutsFor(1), spine at the top", x.cutsFor(1), 1);
        DUE.is("cutsFor(2), spine at the top", x.cutsFor(2), 2);
        x.fold(1);
        x.cut(0);
        DUE.is("cutsFor(1) when cut", x.cutsFor(1), 1);
        x = booklet(2, 1);
        DUE.is("cutsFor(3)", x.cutsFor(3), 4);
        DUE.is("cutsFor(4)", x.cutsFor(4), 8);
        x.setSpine(1);
        DUE.is("cutsFor(3), spine at the top", x.cutsFor(3), 0);
        DUE.is("cutsFor(0) of one cell", booklet(1, 1).cutsFor(0), 0);
        x = booklet(4, 4);
        x.setSpine(1);
        DUE.is("cutsFor(1133)", x.cutsFor(1133), 11);
    }

    private static void bestIs(CribBooklet x, int folds, int edges, int pages) {
        DUE.is("best(0)", x.best(0), folds);
        DUE.is("best(1)", x.best(1), edges);
        DUE.is("best(2)", x.best(2), pages);
    }

    private static void best() {
        DUE.of("promise 39");
        CribBooklet x = booklet(1, 2);
        DUE.is("best(-1)", x.best(-1), INVALID);
        DUE.is("best(3)", x.best(3), INVALID);
        bestIs(x, 1, 0, 0);
        x.printAll(2);
        bestIs(x, 1, 0, 0);
        x.setSpine(1);
        x.printAll(2);
        bestIs(x, 2, 1, 4);
        bestIs(booklet(1, 1), 0, 0, 0);
        x = booklet(4, 1);
        // By each row of folds both the top and the bottom edge hold leaves.
        bestIs(x, 33, 2, 0);
        x.printAll(43);
        bestIs(x, 43, 2, 8);
        x.fold(4);
        x.fold(4);
        x.cut(2);
        bestIs(x, 43, 2, 8);
        x = booklet(2, 2);
        x.printAll(42);
        // 1 leaves the spine's edge and 2 the right one, 3 the top and 4 the bottom.
        bestIs(x, 13, 1, 0);
        x.printAll(41);
        bestIs(x, 41, 1, 8);
        x.setSpine(1);
        bestIs(x, 13, 1, 0);
        DUE.is("cutsFor(23), spine at the top", x.cutsFor(23), 2);
        DUE.is("cutsFor(24), spine at the top", x.cutsFor(24), 10);
    }
}
