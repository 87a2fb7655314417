/** Promises 1 to 7 and 23 to 25: the sheet, its folds, what is printed on it. */
public final class SheetTest {
    private static final Due DUE = new Due();
    private static final int INVALID = -1;
    private static final int ILLEGAL = -2;
    private static final int NONE = -9;
    private static final int MIN = Integer.MIN_VALUE;
    private static final int MAX = Integer.MAX_VALUE;

    public static void main(String[] args) {
        newObject();
        setSheet();
        fold();
        unfold();
        setSpine();
        print();
        printAll();
        count();
        side();
        layer();
        DUE.end();
    }

    private static CribBooklet sheet(int rows, int columns) {
        CribBooklet x = new CribBooklet();
        x.setSheet(rows, columns);
        return x;
    }

    private static void newObject() {
        DUE.of("promise 1");
        CribBooklet x = new CribBooklet();
        int[] counts = {2, 4, 0, 1, 0, 0, 0, 0, 0, 0, 0, 0, 0, 5, 4, 0};
        for (int what = 0; what < counts.length; what++) {
            DUE.is("count(" + what + ")", x.count(what), counts[what]);
        }
        for (int cell = 0; cell < 8; cell++) {
            DUE.is("layer(" + cell + ", 0, 0)", x.layer(cell, 0, 0), cell / 4);
            DUE.is("layer(" + cell + ", 0, 1)", x.layer(cell, 0, 1), cell % 4);
            for (int side = 0; side < 2; side++) {
                DUE.is("a number at first", x.side(cell / 4, cell % 4, side, 0), NONE);
                DUE.is("its turn", x.side(cell / 4, cell % 4, side, 1), 0);
            }
        }
        DUE.is("layer(8, 0, 0)", x.layer(8, 0, 0), INVALID);
        DUE.is("side(2, 0, 0, 0)", x.side(2, 0, 0, 0), INVALID);
        DUE.is("effort(4)", x.effort(4), 0);
        DUE.is("undo()", x.undo(), ILLEGAL);
        DUE.is("note(0, 0)", x.note(0, 0), INVALID);
        DUE.is("run()", x.run(), 0);
    }

    private static void setSheet() {
        DUE.of("promise 2");
        CribBooklet x = new CribBooklet();
        int[][] wrong = {{0, 1}, {1, 0}, {3, 4}, {4, 3}, {8, 1}, {1, 8}, {-1, 2}, {2, -4}, {MIN, 1}, {1, MAX}};
        for (int[] size : wrong) {
            DUE.is("setSheet(" + size[0] + ", " + size[1] + ")", x.setSheet(size[0], size[1]), INVALID);
        }
        DUE.is("states behind failures", x.count(11), 0);
        int[] sizes = {1, 2, 4};
        for (int rows : sizes) {
            for (int columns : sizes) {
                DUE.is("setSheet", x.setSheet(rows, columns), rows * columns);
                DUE.is("rows", x.count(0), rows);
                DUE.is("columns", x.count(1), columns);
                DUE.is("booklet", x.count(5), rows * columns == 1 ? 1 : 0);
            }
        }
        x = sheet(1, 2);
        x.setSpine(1);
        x.setLegs(7);
        x.setLines(3);
        x.addNote(1, 2, 3, 0);
        x.see(0, 5, 1);
        x.print(0, 0, 1, 9, 1);
        x.take(1);
        x.fold(1);
        x.cut(0);
        x.staple(4);
        DUE.is("setSheet(1, 2)", x.setSheet(1, 2), 2);
        int[] counts = {1, 2, 0, 1, 0, 0, 0, 0, 0, 1, 1, 5, 0, 3, 7, 1};
        for (int what = 0; what < counts.length; what++) {
            DUE.is("count(" + what + ") then", x.count(what), counts[what]);
        }
        DUE.is("what was printed", x.side(0, 0, 1, 0), NONE);
        DUE.is("how it was printed", x.side(0, 0, 1, 1), 0);
        DUE.is("effort stays", x.effort(4), 1 + 1 + 2 + 3);
        DUE.is("undo()", x.undo(), 4);
        DUE.is("sights again", x.count(8), 1);
        DUE.is("cuts again", x.count(6), 1);
        DUE.is("staples again", x.count(7), 1);
    }

    private static void fold() {
        DUE.of("promise 3");
        CribBooklet x = sheet(1, 2);
        for (int fold : new int[] {0, 5, -1, MIN, MAX}) {
            DUE.is("fold(" + fold + ")", x.fold(fold), INVALID);
        }
        DUE.is("fold(3) in one row", x.fold(3), ILLEGAL);
        DUE.is("fold(4) in one row", x.fold(4), ILLEGAL);
        DUE.is("fold(1)", x.fold(1), 2);
        DUE.is("fold(2) then", x.fold(2), ILLEGAL);
        DUE.is("fold(9) then", x.fold(9), INVALID);
        x = sheet(4, 1);
        DUE.is("fold(1) in one column", x.fold(1), ILLEGAL);
        DUE.is("fold(2) in one column", x.fold(2), ILLEGAL);
        DUE.is("fold(4)", x.fold(4), 2);
        DUE.is("fold(3)", x.fold(3), 4);
        DUE.is("folds", x.count(4), 43);
        DUE.is("effort", x.effort(0), 1 + 2);
        x = sheet(4, 4);
        int[] folds = {2, 4, 1, 3};
        for (int i = 0; i < 4; i++) {
            DUE.is("fold " + i, x.fold(folds[i]), 2 << i);
        }
        DUE.is("effort of four folds", x.effort(0), 1 + 2 + 4 + 8);
        x = sheet(1, 1);
        for (int fold = 1; fold <= 4; fold++) {
            DUE.is("fold of one cell", x.fold(fold), ILLEGAL);
        }
        DUE.is("states", x.count(11), 1);
    }

    private static void unfold() {
        DUE.of("promise 4");
        CribBooklet x = sheet(2, 2);
        DUE.is("unfold() of an open sheet", x.unfold(), ILLEGAL);
        x.fold(2);
        x.fold(3);
        DUE.is("unfold()", x.unfold(), 1);
        DUE.is("folds", x.count(4), 2);
        DUE.is("layers", x.count(3), 2);
        DUE.is("layer(1, 0, 0)", x.layer(1, 0, 0), 1);
        DUE.is("layer(1, 0, 1)", x.layer(1, 0, 1), 1);
        DUE.is("layer(1, 0, 4)", x.layer(1, 0, 4), 1);
        DUE.is("effort", x.effort(0), 1 + 2 + 1);
        DUE.is("fold(4)", x.fold(4), 4);
        x.cut(3);
        DUE.is("unfold() when cut", x.unfold(), ILLEGAL);
        x.undo();
        x.staple(0);
        DUE.is("unfold() when stapled", x.unfold(), ILLEGAL);
        x.unstaple(0);
        DUE.is("unfold() then", x.unfold(), 1);
        DUE.is("unfold() again", x.unfold(), 0);
        DUE.is("unfold() once more", x.unfold(), ILLEGAL);
        DUE.is("layer(2, 0, 0)", x.layer(2, 0, 0), 1);
    }

    private static void setSpine() {
        DUE.of("promise 5");
        CribBooklet x = sheet(1, 2);
        DUE.is("setSpine(2)", x.setSpine(2), INVALID);
        DUE.is("setSpine(-1)", x.setSpine(-1), INVALID);
        DUE.is("setSpine(1)", x.setSpine(1), 0);
        DUE.is("setSpine(1) again", x.setSpine(1), 1);
        DUE.is("states", x.count(11), 3);
        DUE.is("setSpine(0)", x.setSpine(0), 1);
        x.fold(1);
        x.cut(1);
        DUE.is("setSpine(1) when cut", x.setSpine(1), 0);
        x.staple(9);
        DUE.is("setSpine(0) when stapled", x.setSpine(0), ILLEGAL);
        DUE.is("setSpine(7) when stapled", x.setSpine(7), INVALID);
        DUE.is("spine", x.count(15), 1);
    }

    private static void print() {
        DUE.of("promise 6");
        CribBooklet x = sheet(2, 4);
        int[][] wrong = {{2, 0, 0, 1, 0}, {0, 4, 0, 1, 0}, {-1, 0, 0, 1, 0}, {0, -1, 0, 1, 0}, {0, 0, 2, 1, 0},
            {0, 0, -1, 1, 0}, {0, 0, 0, 32, 0}, {0, 0, 0, -2, 0}, {0, 0, 0, 1, 2}, {0, 0, 0, 1, -1},
            {0, 0, 0, -1, 2}, {MAX, 0, 0, 1, 0}, {0, MIN, 0, 1, 0}, {0, 0, 0, NONE, 0}};
        for (int[] a : wrong) {
            DUE.is("print of " + java.util.Arrays.toString(a), x.print(a[0], a[1], a[2], a[3], a[4]), INVALID);
        }
        DUE.is("print(1, 3, 1, 31, 1)", x.print(1, 3, 1, 31, 1), NONE);
        DUE.is("states: NONE is no error", x.count(11), 2);
        DUE.is("effort", x.effort(1), 1);
        DUE.is("print it again", x.print(1, 3, 1, 31, 1), 31);
        DUE.is("effort when nothing changes", x.effort(1), 1);
        DUE.is("states when nothing changes", x.count(11), 3);
        DUE.is("print it upright", x.print(1, 3, 1, 31, 0), 31);
        DUE.is("effort of turning", x.effort(1), 2);
        DUE.is("print 0", x.print(1, 3, 1, 0, 1), 31);
        DUE.is("print nothing", x.print(1, 3, 1, -1, 1), 0);
        DUE.is("effort of taking away", x.effort(1), 4);
        DUE.is("turned of nothing", x.side(1, 3, 1, 1), 0);
        DUE.is("print nothing for nothing", x.print(1, 3, 1, -1, 0), NONE);
        DUE.is("effort of nothing", x.effort(1), 4);
        DUE.is("the other side", x.side(1, 3, 0, 0), NONE);
        x.fold(3);
        DUE.is("print when folded", x.print(0, 0, 0, 1, 0), ILLEGAL);
        DUE.is("print wrongly when folded", x.print(0, 0, 0, 32, 0), INVALID);
        x = sheet(1, 1);
        DUE.is("print on one cell", x.print(0, 0, 0, 7, 0), NONE);
        x.cut(2);
        DUE.is("print when cut", x.print(0, 0, 0, 1, 0), ILLEGAL);
        x.undo();
        x.staple(2);
        DUE.is("print when stapled", x.print(0, 0, 0, 1, 0), ILLEGAL);
        DUE.is("printAll(0) when stapled", x.printAll(0), ILLEGAL);
        x.unstaple(2);
        DUE.is("print then", x.print(0, 0, 0, 1, 0), 7);
    }

    private static void printAll() {
        DUE.of("promise 7");
        CribBooklet x = sheet(2, 2);
        for (int folds : new int[] {0, 1, 3, 11, 33, 131, 113, 10, 130, 15, 53, 51, -13, MIN, MAX, 1313, 103}) {
            DUE.is("printAll(" + folds + ")", x.printAll(folds), INVALID);
        }
        // 23: column 1 upon column 0, then row 0 upon row 1: leaves (0, 0), (0, 1), (1, 1), (1, 0).
        DUE.is("printAll(23)", x.printAll(23), 8);
        int[][] due = {{0, 0, 1, 0, 1}, {0, 0, 0, 1, 1}, {0, 1, 0, 2, 1}, {0, 1, 1, 3, 1},
            {1, 1, 1, 4, 0}, {1, 1, 0, 5, 0}, {1, 0, 0, 6, 0}, {1, 0, 1, 7, 0}};
        for (int[] a : due) {
            DUE.is("number of " + a[3], x.side(a[0], a[1], a[2], 0), a[3]);
            DUE.is("turn of " + a[3], x.side(a[0], a[1], a[2], 1), a[4]);
        }
        DUE.is("printAll(23) again", x.printAll(23), 0);
        x.setSpine(1);
        DUE.is("printAll(23) with the spine at the top", x.printAll(23), 4);
        DUE.is("turn of 1", x.side(0, 0, 0, 1), 0);
        DUE.is("turn of 4", x.side(1, 1, 1, 1), 0);
        DUE.is("turn of 5", x.side(1, 1, 0, 1), 1);
        DUE.is("effort", x.effort(1), 12);
        x.fold(1);
        DUE.is("printAll(23) when folded", x.printAll(23), ILLEGAL);
        DUE.is("printAll(3) when folded", x.printAll(3), INVALID);
        x = sheet(1, 1);
        DUE.is("printAll(1) of one cell", x.printAll(1), INVALID);
        DUE.is("printAll(0) of one cell", x.printAll(0), 2);
        x.cut(0);
        DUE.is("printAll(0) when cut", x.printAll(0), ILLEGAL);
        DUE.is("printAll(2) when cut", x.printAll(2), INVALID);
        x = sheet(4, 4);
        DUE.is("printAll(11331)", x.printAll(11331), INVALID);
        DUE.is("printAll(4422)", x.printAll(4422), 32);
        DUE.is("printAll(1113)", x.printAll(1113), INVALID);
        x = sheet(1, 4);
        DUE.is("printAll(12)", x.printAll(12), 8);
        DUE.is("printAll(21)", x.printAll(21) > 0 ? 1 : 0, 1);
    }

    private static void count() {
        DUE.of("promise 23");
        CribBooklet x = sheet(4, 2);
        DUE.is("count(-1)", x.count(-1), INVALID);
        DUE.is("count(16)", x.count(16), INVALID);
        DUE.is("count(MIN)", x.count(MIN), INVALID);
        x.setSpine(1);
        x.see(3, 3, 0);
        x.see(3, 3, 0);
        x.addNote(1, 1, 1, 1);
        x.take(0);
        x.append('x');
        x.setLines(8);
        x.setLegs(2);
        x.fold(4);
        x.fold(1);
        DUE.is("booklet yet", x.count(5), 0);
        x.fold(3);
        x.cut(0);
        x.cut(3);
        x.staple(2);
        int[] counts = {4, 2, 3, 8, 413, 1, 9, 1, 2, 1, 1, 5, 1, 8, 2, 1};
        for (int what = 0; what < counts.length; what++) {
            DUE.is("count(" + what + ")", x.count(what), counts[what]);
        }
    }

    private static void side() {
        DUE.of("promise 24");
        CribBooklet x = sheet(2, 1);
        int[][] wrong = {{2, 0, 0, 0}, {0, 1, 0, 0}, {0, 0, 2, 0}, {0, 0, 0, 2}, {-1, 0, 0, 0}, {0, -1, 0, 0},
            {0, 0, -1, 0}, {0, 0, 0, -1}, {MAX, MAX, 0, 0}, {MIN, 0, 0, 1}};
        for (int[] a : wrong) {
            DUE.is("side of " + java.util.Arrays.toString(a), x.side(a[0], a[1], a[2], a[3]), INVALID);
        }
        x.print(1, 0, 0, 12, 1);
        x.print(1, 0, 1, 13, 0);
        DUE.is("side(1, 0, 0, 0)", x.side(1, 0, 0, 0), 12);
        DUE.is("side(1, 0, 0, 1)", x.side(1, 0, 0, 1), 1);
        DUE.is("side(1, 0, 1, 0)", x.side(1, 0, 1, 0), 13);
        DUE.is("side(1, 0, 1, 1)", x.side(1, 0, 1, 1), 0);
        DUE.is("side(0, 0, 1, 0)", x.side(0, 0, 1, 0), NONE);
        x.fold(3);
        DUE.is("side(1, 0, 0, 0) when folded", x.side(1, 0, 0, 0), 12);
        x = sheet(4, 4);
        x.print(3, 3, 1, 31, 1);
        DUE.is("side(3, 3, 1, 0)", x.side(3, 3, 1, 0), 31);
        DUE.is("side(3, 3, 1, 1)", x.side(3, 3, 1, 1), 1);
    }

    /** Each layer as row, column, side that is up, upside down, mirrored. */
    private static void layers(CribBooklet x, int place, int[]... due) {
        for (int layer = 0; layer < due.length; layer++) {
            for (int what = 0; what < 5; what++) {
                DUE.is("layer(" + place + ", " + layer + ", " + what + ") by " + x.count(4),
                        x.layer(place, layer, what), due[layer][what]);
            }
        }
        DUE.is("a layer below all", x.layer(place, due.length, 0), INVALID);
    }

    private static void layer() {
        DUE.of("promise 25");
        CribBooklet x = sheet(2, 2);
        layers(x, 3, new int[] {1, 1, 0, 0, 0});
        x.fold(1);
        layers(x, 0, new int[] {0, 0, 1, 0, 1}, new int[] {0, 1, 0, 0, 0});
        layers(x, 1, new int[] {1, 0, 1, 0, 1}, new int[] {1, 1, 0, 0, 0});
        x.fold(4);
        layers(x, 0, new int[] {1, 1, 1, 1, 0}, new int[] {1, 0, 0, 1, 1}, new int[] {0, 0, 1, 0, 1},
                new int[] {0, 1, 0, 0, 0});
        x = sheet(1, 4);
        x.fold(2);
        layers(x, 0, new int[] {0, 3, 1, 0, 1}, new int[] {0, 0, 0, 0, 0});
        layers(x, 1, new int[] {0, 2, 1, 0, 1}, new int[] {0, 1, 0, 0, 0});
        x.fold(1);
        layers(x, 0, new int[] {0, 0, 1, 0, 1}, new int[] {0, 3, 0, 0, 0}, new int[] {0, 2, 1, 0, 1},
                new int[] {0, 1, 0, 0, 0});
        x = sheet(4, 1);
        x.fold(3);
        layers(x, 0, new int[] {1, 0, 1, 1, 0}, new int[] {2, 0, 0, 0, 0});
        layers(x, 1, new int[] {0, 0, 1, 1, 0}, new int[] {3, 0, 0, 0, 0});
        int[][] wrong = {{2, 0, 0}, {-1, 0, 0}, {0, 2, 0}, {0, -1, 0}, {0, 0, 5}, {0, 0, -1}, {MAX, 0, 0},
            {0, MAX, 0}, {MIN, MIN, MIN}};
        for (int[] a : wrong) {
            DUE.is("layer of " + java.util.Arrays.toString(a), x.layer(a[0], a[1], a[2]), INVALID);
        }
    }
}
