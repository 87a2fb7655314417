/** The boundary cases of the sheet, its folds and what is printed: promises 1 to 7 and 23 to 25 and their terms. */
final class SheetEdges {
    private static final int[] SIZES = {1, 2, 4};
    private static final String NO_SIZES = "0 3 5 8 -1 -2 -4 33 36 257 260 65537 MIN MAX";
    private static final String[] OTHERWISE = {"fold(1)", "fold(3)", "fold(1) fold(1) fold(3)",
        "setSheet(1, 1) cut(0)", "setSheet(1, 1) staple(9)", "setSheet(1, 1) staple(0) cut(3)"};

    private SheetEdges() {
    }

    static void tests(Bench b) {
        sheetTerms(b);
        foldTerms(b);
        placeTerms(b);
        newObject(b);
        setSheet(b);
        fold(b);
        unfold(b);
        setSpine(b);
        print(b);
        printResults(b);
        printAll(b);
        printAllResults(b);
        count(b);
        side(b);
        layer(b);
    }

    private static void sheetTerms(Bench b) {
        b.term("What it is", "An object is used for at most 512 calls after it has been made");
        b.row("508*setLines(1) setLines(9)=1 fold(1)=2 fold(3)=4 count(13)=9");
        b.term("Terms", "Sets are bit masks: bit k is for number k");
        b.rows("setSheet(1, 1)", "count(6)=0", "cut(0) count(6)=1", "cut(3) count(6)=8",
                "cut(0) cut(1) cut(2) cut(3) count(6)=15");
        b.term("Sheet", "The sheet has 1, 2 or 4 rows and 1, 2 or 4 columns of cells");
        for (int rows : SIZES) {
            for (int columns : SIZES) {
                b.row("setSheet(" + rows + ", " + columns + ") count(0)=" + rows + " count(1)=" + columns
                        + " side(" + (rows - 1) + ", " + (columns - 1) + ", 1, 0)=NONE"
                        + " side(" + rows + ", 0, 0, 0)=INVALID side(0, " + columns + ", 0, 0)=INVALID");
            }
        }
        b.term("Sheet", "(at first 2 rows and 4 columns)");
        b.row("count(0)=2 count(1)=4 side(1, 3, 1, 0)=NONE side(2, 0, 0, 0)=INVALID side(0, 4, 0, 0)=INVALID");
        b.term("Sheet", "Row 0 is at the top, column 0 at the left");
        b.row("setSheet(4, 1) fold(3) layer(1, 0, 0)=0 layer(1, 1, 0)=3");
        b.row("setSheet(1, 4) fold(1) layer(1, 0, 1)=0 layer(1, 1, 1)=3");
        b.term("Sheet", "Each cell has two sides, 0 the front and 1 the back");
        b.row("setSheet(1, 1) print(0, 0, 0, 4, 0) print(0, 0, 1, 5, 0) page(0, 2)=0 page(0, 3)=4 page(1, 2)=1 page(1, 3)=5");
        b.range("", "side(0, 0, #, 0)", 0, 1);
        b.term("Sheet", "the back is seen by turning the sheet about a vertical axis,"
                + " so that what is at the top stays at the top");
        b.row("setSheet(1, 1) print(0, 0, 1, 1, 0) page(1, 4)=1");
        b.row("setSheet(1, 1) print(0, 0, 1, 1, 1) page(1, 4)=0");
        b.term("Sheet", "On a side of a cell a number, 0 to 31, may be printed, upright or upside down");
        b.row("print(1, 3, 1, 0, 0) side(1, 3, 1, 0)=0 side(1, 3, 1, 1)=0");
        b.row("print(1, 3, 1, 31, 1) side(1, 3, 1, 0)=31 side(1, 3, 1, 1)=1");
        b.row("print(1, 3, 1, 32, 0)=INVALID print(1, 3, 1, -2, 0)=INVALID");
        b.term("Sheet", "it is upright if its top points to the top of the sheet");
        b.rows("setSheet(1, 1)", "print(0, 0, 0, 0, 0) page(0, 4)=1", "print(0, 0, 0, 0, 1) page(0, 4)=0");
        b.term("Sheet", "At first nothing is printed");
        for (int side = 0; side < 16; side++) {
            String at = side / 8 + ", " + side / 2 % 4 + ", " + side % 2;
            b.row("side(" + at + ", 0)=NONE side(" + at + ", 1)=0");
        }
    }

    private static void foldTerms(Bench b) {
        b.term("Folds", "At first the sheet is open: each cell is a place by itself with one layer, its front up");
        for (int cell = 0; cell < 8; cell++) {
            b.row(layer(cell, 0, cell / 4, cell % 4, 0, 0, 0) + " layer(" + cell + ", 1, 0)=INVALID");
        }
        b.row("count(2)=0 count(3)=1 count(4)=0 layer(8, 0, 0)=INVALID");
        b.term("Folds", "There are four folds");
        b.rows("", "fold(1)=2", "fold(2)=2", "fold(3)=2", "fold(4)=2", "fold(0)=INVALID", "fold(5)=INVALID");
        b.term("Folds", "each of which is for what the sheet has become by the folds before");
        b.row("setSheet(1, 4) fold(1) fold(1)" + columns(0, 2, 1, 0, 3));
        b.row("setSheet(1, 4) fold(1) fold(2)" + columns(0, 3, 0, 1, 2));
        b.row("setSheet(1, 4) fold(2) fold(1)" + columns(0, 0, 3, 2, 1));
        b.row("setSheet(1, 4) fold(2) fold(2)" + columns(0, 1, 2, 3, 0));
        b.term("Folds", "1 lays the left half upon the right half");
        b.row("setSheet(1, 4) fold(1)" + columns(0, 1, 2) + columns(1, 0, 3));
        b.row("setSheet(1, 2) fold(1)" + columns(0, 0, 1));
        b.term("Folds", "2 the right half upon the left half");
        b.row("setSheet(1, 4) fold(2)" + columns(0, 3, 0) + columns(1, 2, 1));
        b.row("setSheet(1, 2) fold(2)" + columns(0, 1, 0));
        b.term("Folds", "3 the upper half upon the lower half");
        b.row("setSheet(4, 1) fold(3)" + rows(0, 1, 2) + rows(1, 0, 3));
        b.row("setSheet(2, 1) fold(3)" + rows(0, 0, 1));
        b.term("Folds", "4 the lower half upon the upper half");
        b.row("setSheet(4, 1) fold(4)" + rows(0, 3, 0) + rows(1, 2, 1));
        b.row("setSheet(2, 1) fold(4)" + rows(0, 1, 0));
        b.term("Folds", "The folds 1 and 2 are possible if more than one column of places is left");
        b.rows("setSheet(4, 2)", "fold(1)=2 fold(1)=ILLEGAL fold(2)=ILLEGAL", "fold(2)=2 fold(2)=ILLEGAL fold(1)=ILLEGAL");
        b.rows("setSheet(1, 4)", "fold(1)=2 fold(2)=4 fold(1)=ILLEGAL fold(2)=ILLEGAL", "fold(2)=2 fold(1)=4");
        b.row("setSheet(4, 1) fold(1)=ILLEGAL fold(2)=ILLEGAL fold(3)=2 fold(4)=4 fold(1)=ILLEGAL fold(2)=ILLEGAL");
        b.term("Folds", "3 and 4 if more than one row of places is left");
        b.rows("setSheet(2, 4)", "fold(3)=2 fold(3)=ILLEGAL fold(4)=ILLEGAL", "fold(4)=2 fold(4)=ILLEGAL fold(3)=ILLEGAL");
        b.rows("setSheet(4, 1)", "fold(3)=2 fold(4)=4 fold(3)=ILLEGAL fold(4)=ILLEGAL", "fold(4)=2 fold(3)=4");
        b.row("setSheet(1, 4) fold(3)=ILLEGAL fold(4)=ILLEGAL fold(1)=2 fold(2)=4 fold(3)=ILLEGAL fold(4)=ILLEGAL");
    }

    private static void placeTerms(Bench b) {
        b.term("Folds", "By a fold the layers of each place in the half that is moved come upon those of the place that"
                + " mirrors it in the other half, which are below them then: in reverse order, and each layer turned over,"
                + " about a vertical axis by 1 and 2, about a horizontal axis by 3 and 4");
        b.row("setSheet(1, 4) fold(1) fold(1) " + layer(0, 0, 0, 2, 1, 0, 1) + layer(0, 1, 0, 1, 0, 0, 0)
                + layer(0, 2, 0, 0, 1, 0, 1) + layer(0, 3, 0, 3, 0, 0, 0));
        b.row("setSheet(4, 1) fold(4) fold(4) " + layer(0, 0, 1, 0, 1, 1, 0) + layer(0, 1, 2, 0, 0, 0, 0)
                + layer(0, 2, 3, 0, 1, 1, 0) + layer(0, 3, 0, 0, 0, 0, 0));
        b.row("setSheet(1, 2) fold(2) " + layer(0, 0, 0, 1, 1, 0, 1) + layer(0, 1, 0, 0, 0, 0, 0));
        b.term("Folds", "A layer that is turned over has its other side up");
        b.row("setSheet(2, 2) fold(1) fold(3) " + layer(0, 0, 0, 1, 1, 1, 0) + layer(0, 1, 0, 0, 0, 1, 1)
                + layer(0, 2, 1, 0, 1, 0, 1) + layer(0, 3, 1, 1, 0, 0, 0));
        b.term("Folds", "A layer is mirrored if it has been turned over about a vertical axis an odd number of times");
        b.row("setSheet(1, 4) fold(2) layer(0, 0, 4)=1 layer(0, 1, 4)=0");
        b.row("setSheet(1, 4) fold(2) fold(2) layer(0, 0, 4)=1 layer(0, 1, 4)=0 layer(0, 2, 4)=1 layer(0, 3, 4)=0");
        b.term("Folds", "and it is upside down if it has been turned over about a horizontal axis an odd number of times");
        b.row("setSheet(4, 1) fold(3) layer(0, 0, 3)=1 layer(0, 1, 3)=0");
        b.row("setSheet(4, 1) fold(3) fold(3) layer(0, 0, 3)=1 layer(0, 1, 3)=0 layer(0, 2, 3)=1 layer(0, 3, 3)=0");
        b.term("Folds", "The sheet is a booklet if one place is left");
        b.row("setSheet(1, 1) count(5)=1");
        b.row("setSheet(1, 2) count(5)=0 fold(1) count(5)=1 unfold() count(5)=0");
        b.row("setSheet(4, 4) count(5)=0 fold(1) fold(1) fold(3) count(5)=0 pieces()=ILLEGAL fold(3) count(5)=1 pieces()=1");
        b.term("Folds", "its layers are the leaves then, numbered from 0 at the top");
        b.row("setSheet(1, 4) fold(1) fold(1) page(0, 1)=2 page(1, 1)=2 page(6, 1)=3 page(7, 1)=3"
                + " layer(0, 3, 1)=3 layer(0, 4, 1)=INVALID");
        b.row("setSheet(1, 1) layer(0, 0, 0)=0 layer(0, 1, 0)=INVALID");
        b.term("Folds", "A row of folds that makes a booklet of the open sheet is told as the number"
                + " whose decimal digits are these folds, in order");
        b.row("setSheet(4, 4) fold(4) fold(1) fold(3) fold(2) count(4)=4132 readsBy(4132)=0");
        b.row("setSheet(1, 2) fold(2) count(4)=2 readsBy(2)=0 readsBy(20)=INVALID readsBy(22)=INVALID");
        b.term("Folds", "(0 for a sheet of one cell, which needs none)");
        b.row("setSheet(1, 1) count(4)=0 readsBy(0)=0 cutsFor(0)=0 best(0)=0 fitting(1)=0 printAll(0)=2");
        b.row("setSheet(1, 1) readsBy(1)=INVALID readsBy(-1)=INVALID");
        b.row("setSheet(1, 2) readsBy(0)=INVALID cutsFor(0)=INVALID printAll(0)=INVALID");
    }

    /** What a layer is due to be: its cell, the side that is up, whether it is upside down, whether mirrored. */
    private static String layer(int place, int layer, int... due) {
        StringBuilder row = new StringBuilder();
        for (int what = 0; what < due.length; what++) {
            row.append("layer(" + place + ", " + layer + ", " + what + ")=" + due[what] + " ");
        }
        return row.toString();
    }

    private static String columns(int place, int... due) {
        return cells(place, 1, due);
    }

    private static String rows(int place, int... due) {
        return cells(place, 0, due);
    }

    private static String cells(int place, int what, int... due) {
        StringBuilder row = new StringBuilder();
        for (int layer = 0; layer < due.length; layer++) {
            row.append(" layer(" + place + ", " + layer + ", " + what + ")=" + due[layer]);
        }
        return row + " layer(" + place + ", " + due.length + ", " + what + ")=INVALID";
    }

    private static void newObject(Bench b) {
        b.promise(1, "Creates an open sheet without notes, with an empty text");
        b.row("count(2)=0 count(3)=1 count(4)=0 count(9)=0 note(0, 0)=INVALID removeNote(0)=INVALID count(12)=0 run()=0");
        b.row("count(6)=0 count(7)=0 count(8)=0 count(10)=0 count(11)=0 effort(4)=0 undo()=ILLEGAL clearText()=0");
    }

    private static void setSheet(Bench b) {
        b.promise(2, "Takes a new sheet: it is open, and nothing is printed, cut, stapled or seen");
        b.row("setSheet(1, 1) printAll(0) 8*see(1, 31, 1) cut(0) cut(3) staple(0) staple(9) setSheet(1, 1)=1 count(6)=0"
                + " count(7)=0 count(8)=0 side(0, 0, 0, 0)=NONE side(0, 0, 1, 0)=NONE print(0, 0, 0, 1, 0)=NONE"
                + " unstaple(0)=ILLEGAL unstaple(9)=ILLEGAL cut(0)=0");
        b.row("setSheet(4, 4) print(3, 3, 1, 31, 1) fold(1) fold(1) fold(3) fold(3) setSheet(1, 1)=1 setSheet(4, 4)=16"
                + " count(2)=0 count(3)=1 count(4)=0 unfold()=ILLEGAL side(3, 3, 1, 0)=NONE side(3, 3, 1, 1)=0 "
                + layer(15, 0, 3, 3, 0, 0, 0));
        b.promise(2, "All else stays");
        b.row("setSpine(1) setLegs(16) addNote(99, 9, 20, 1) setLines(9) take(1) fold(1) unfold() 'x' setSheet(4, 1)"
                + " count(15)=1 count(14)=16 count(9)=1 note(0, 0)=99 note(0, 3)=1 count(13)=9 count(10)=1 effort(0)=2"
                + " count(12)=1 count(11)=5 restore(1)=0 count(0)=2 count(1)=4");
        b.promise(2, "This is an action");
        b.action("", "setSheet(1, 1)");
        b.action("", "setSheet(2, 4)");
        b.action("setSheet(1, 2) fold(1) cut(0) staple(0)", "setSheet(1, 2)");
        b.promise(2, "rows: 1, 2 or 4");
        b.rows("", "setSheet(1, 2)=2", "setSheet(2, 2)=4", "setSheet(4, 2)=8");
        for (String size : NO_SIZES.split(" ")) {
            b.row("setSheet(" + size + ", 2)=INVALID");
        }
        b.promise(2, "columns: 1, 2 or 4");
        b.rows("", "setSheet(2, 1)=2", "setSheet(2, 2)=4", "setSheet(2, 4)=8");
        for (String size : NO_SIZES.split(" ")) {
            b.row("setSheet(2, " + size + ")=INVALID");
        }
        b.promise(2, "Returns the number of cells");
        for (int rows : SIZES) {
            for (int columns : SIZES) {
                b.row("setSheet(" + rows + ", " + columns + ")=" + rows * columns);
            }
        }
        b.promise(2, "INVALID_ARGUMENT if an argument is out of range");
        b.rows("setSheet(1, 1) printAll(0) staple(0) cut(0)", "setSheet(0, 0)=INVALID", "setSheet(3, 3)=INVALID",
                "setSheet(8, 1)=INVALID", "setSheet(1, 8)=INVALID", "setSheet(-1, -1)=INVALID", "setSheet(MIN, MAX)=INVALID");
    }

    private static void fold(Bench b) {
        b.promise(3, "Folds the sheet");
        b.row("setSheet(1, 2) fold(1) count(2)=1 count(4)=1 count(5)=1");
        b.promise(3, "This is an action");
        for (int fold = 1; fold <= 4; fold++) {
            b.action("", "fold(" + fold + ")");
        }
        b.action("setSheet(4, 4) fold(1) fold(3) fold(1) setLines(1)", "fold(4)");
        b.promise(3, "fold: 1 to 4");
        b.range("", "fold(#)", 1, 4);
        b.promise(3, "Returns the number of layers that each place has then");
        b.row("setSheet(4, 4) fold(1)=2 fold(1)=4 fold(3)=8 fold(3)=16");
        b.row("setSheet(1, 2) fold(2)=2");
        b.promise(3, "INVALID_ARGUMENT if fold is out of range");
        b.rows("setSheet(1, 1)", "fold(0)=INVALID fold(5)=INVALID", "staple(1) fold(0)=INVALID fold(5)=INVALID",
                "cut(1) fold(0)=INVALID fold(5)=INVALID");
        b.promise(3, "ILLEGAL_STATE if this fold is not possible");
        b.row("setSheet(1, 1) fold(1)=ILLEGAL fold(2)=ILLEGAL fold(3)=ILLEGAL fold(4)=ILLEGAL");
        b.row("fold(3) fold(3)=ILLEGAL fold(4)=ILLEGAL fold(1)=4 fold(1)=8 fold(1)=ILLEGAL fold(2)=ILLEGAL");
        b.promise(3, "or anything is cut or stapled");
        b.rows("setSheet(1, 2) fold(1)", "cut(3) fold(1)=ILLEGAL", "staple(9) fold(3)=ILLEGAL");
    }

    private static void unfold(Bench b) {
        b.promise(4, "Takes the latest fold back");
        b.row("fold(1) fold(3) unfold() count(4)=1 count(3)=2" + columns(0, 1, 2));
        b.same("setSheet(4, 4) fold(1) unfold() fold(4) fold(2) fold(3) unfold()",
                "setSheet(4, 4) fold(3) unfold() fold(4) fold(2) fold(4) unfold()");
        b.promise(4, "This is an action");
        b.action("fold(1)", "unfold()");
        b.action("setSheet(4, 4) fold(2) fold(4) fold(2) fold(4)", "unfold()");
        b.promise(4, "Returns the number of folds that are left");
        b.row("setSheet(4, 4) fold(1) fold(1) fold(3) fold(3) unfold()=3 unfold()=2 unfold()=1 unfold()=0");
        b.promise(4, "ILLEGAL_STATE if there is none");
        b.rows("", "unfold()=ILLEGAL", "setSheet(1, 1) unfold()=ILLEGAL", "fold(1) unfold()=0 unfold()=ILLEGAL");
        b.promise(4, "or anything is cut or stapled");
        for (int edge = 0; edge < 4; edge++) {
            b.row("setSheet(1, 2) fold(1) cut(" + edge + ") unfold()=ILLEGAL");
        }
        b.row("setSheet(1, 2) fold(1) staple(0) unfold()=ILLEGAL unstaple(0) unfold()=0");
        b.row("setSheet(1, 2) fold(1) staple(9) staple(8) unstaple(9) unfold()=ILLEGAL unstaple(8) cut(0) unfold()=ILLEGAL");
    }

    private static void setSpine(Bench b) {
        b.promise(5, "Sets the spine");
        b.row("count(15)=0 setSpine(1) count(15)=1 setSpine(0) count(15)=0");
        b.promise(5, "This is an action");
        b.action("", "setSpine(1)");
        b.action("", "setSpine(0)");
        b.action("setSpine(1)", "setSpine(1)");
        b.promise(5, "spine: 0 for the left, 1 for the top");
        b.range("", "setSpine(#)", 0, 1);
        b.promise(5, "Returns the previous spine");
        b.row("setSpine(0)=0 setSpine(1)=0 setSpine(1)=1 setSpine(0)=1 setSpine(0)=0");
        b.promise(5, "INVALID_ARGUMENT if spine is out of range");
        b.row("setSheet(1, 1) staple(0) setSpine(2)=INVALID setSpine(-1)=INVALID");
        b.promise(5, "ILLEGAL_STATE if there are staples");
        b.row("setSheet(1, 1) staple(0) setSpine(1)=ILLEGAL setSpine(0)=ILLEGAL unstaple(0) setSpine(1)=0");
        b.row("setSheet(1, 1) staple(7) staple(8) staple(9) setSpine(0)=ILLEGAL");
        b.row("setSheet(1, 2) fold(1) cut(0) setSpine(1)=0");
        b.row("setSheet(1, 2) fold(1) setSpine(1)=0 unfold() setSpine(0)=1");
    }

    private static void print(Bench b) {
        b.promise(6, "Prints a number on a side of a cell of the open sheet, in place of what is there");
        b.row("print(1, 2, 0, 5, 1) print(1, 2, 0, 6, 0) side(1, 2, 0, 0)=6 side(1, 2, 0, 1)=0 side(1, 2, 1, 0)=NONE");
        b.promise(6, "This is an action");
        b.action("", "print(1, 3, 1, 31, 1)");
        b.action("", "print(0, 0, 0, -1, 1)");
        b.action("print(0, 0, 0, 7, 1)", "print(0, 0, 0, 7, 1)");
        b.action("print(0, 0, 0, 0, 1)", "print(0, 0, 0, 0, 0)");
        b.promise(6, "row: a row");
        for (int size : SIZES) {
            b.range("setSheet(" + size + ", 2)", "print(#, 1, 0, 1, 0)", 0, size - 1);
        }
        b.promise(6, "column: a column");
        for (int size : SIZES) {
            b.range("setSheet(2, " + size + ")", "print(1, #, 0, 1, 0)", 0, size - 1);
        }
        b.promise(6, "side: 0 or 1");
        b.range("", "print(0, 0, #, 1, 0)", 0, 1);
        b.promise(6, "number: 0 to 31, or -1 for nothing");
        b.range("", "print(0, 0, 0, #, 0)", -1, 31);
        b.row("print(0, 0, 0, NONE, 0)=INVALID");
        b.promise(6, "turned: 1 if it is printed upside down, 0 if upright");
        b.range("", "print(0, 0, 0, 0, #)", 0, 1);
        b.row("print(0, 0, 0, 0, 1) side(0, 0, 0, 1)=1 print(0, 0, 0, 0, 0) side(0, 0, 0, 1)=0");
        b.promise(6, "(0 or 1 for nothing, too, where it is of no matter)");
        b.range("", "print(0, 0, 0, -1, #)", 0, 1);
        b.same("print(0, 0, 0, -1, 1)", "print(0, 0, 0, -1, 0)");
        b.same("print(0, 0, 0, 4, 1) print(0, 0, 0, -1, 1)", "print(0, 0, 0, 4, 1) print(0, 0, 0, -1, 0)");
        b.row("print(0, 0, 0, -1, 1) side(0, 0, 0, 1)=0 print(0, 0, 0, -1, 0) effort(1)=0");
    }

    private static void printResults(Bench b) {
        b.promise(6, "Returns the previous number, or NONE if there was nothing");
        b.row("print(0, 0, 0, 0, 1)=NONE print(0, 0, 0, 31, 0)=0 print(0, 0, 0, -1, 0)=31 print(0, 0, 0, 5, 0)=NONE"
                + " print(0, 0, 1, 5, 0)=NONE");
        b.promise(6, "INVALID_ARGUMENT if an argument is out of range");
        for (String otherwise : OTHERWISE) {
            b.rows(otherwise, "print(4, 0, 0, 1, 0)=INVALID", "print(0, 4, 0, 1, 0)=INVALID", "print(0, 0, 2, 1, 0)=INVALID",
                    "print(0, 0, 0, 32, 0)=INVALID", "print(0, 0, 0, -2, 0)=INVALID", "print(0, 0, 0, 1, 2)=INVALID",
                    "print(0, 0, 0, -1, -1)=INVALID");
        }
        b.promise(6, "ILLEGAL_STATE if the sheet has folds, or anything is cut or stapled");
        for (String otherwise : OTHERWISE) {
            b.rows(otherwise, "print(0, 0, 0, 1, 0)=ILLEGAL", "print(0, 0, 0, -1, 1)=ILLEGAL");
        }
        b.row("fold(1) fold(3) unfold() print(0, 0, 0, 1, 0)=ILLEGAL unfold() print(0, 0, 0, 1, 0)=NONE");
        b.row("setSheet(1, 1) staple(0) staple(9) unstaple(0) print(0, 0, 0, 1, 0)=ILLEGAL unstaple(9) print(0, 0, 0, 1, 0)=NONE");
    }

    /** How many folds make one of so many. */
    private static int halvings(int size) {
        return size == 4 ? 2 : size - 1;
    }

    static boolean isRowOfFolds(int number, int rows, int columns) {
        String digits = number == 0 ? "" : "" + number;
        return digits.matches("[1-4]*") && digits.replaceAll("[34]", "").length() == halvings(columns)
                && digits.replaceAll("[12]", "").length() == halvings(rows);
    }

    /** Each number that could be a row of folds, on each sheet. */
    static void rowsOfFolds(Bench b, String method) {
        for (int rows : SIZES) {
            for (int columns : SIZES) {
                CribBooklet x = null;
                for (int number = -50; number < 4600; number++) {
                    if (x == null || number % 400 == 0) {
                        x = new CribBooklet();
                        x.setSheet(rows, columns);
                    }
                    int answer = Call.of(method, number).on(x);
                    b.holds(method + "(" + number + ") on " + rows + " by " + columns + ": " + answer,
                            isRowOfFolds(number, rows, columns) ? answer >= 0 : answer == -1);
                }
            }
        }
    }

    private static void printAll(Bench b) {
        b.promise(7, "Prints all sides of the open sheet so that, folded by a row of folds and with the spine as it is,"
                + " each page has its own number, seen upright");
        String[][] all = {{"1, 1", "0"}, {"1, 2", "2"}, {"2, 1", "3"}, {"2, 2", "41"}, {"2, 4", "132"}, {"4, 4", "4321"}};
        for (String[] sheet : all) {
            for (int spine = 0; spine < 2; spine++) {
                StringBuilder row = new StringBuilder("setSheet(" + sheet[0] + ") setSpine(" + spine + ") printAll(" + sheet[1] + ")");
                for (char fold : sheet[1].replace("0", "").toCharArray()) {
                    row.append(" fold(" + fold + ")");
                }
                for (int page = 0; page < 2 << sheet[1].replace("0", "").length(); page++) {
                    row.append(" page(" + page + ", 3)=" + page + " page(" + page + ", 4)=1");
                }
                b.row(row.toString());
            }
        }
        b.promise(7, "This is an action");
        b.action("", "printAll(113)");
        b.action("printAll(113)", "printAll(113)");
        b.action("setSheet(1, 1)", "printAll(0)");
        b.promise(7, "folds: a row of folds, as a number");
        rowsOfFolds(b, "printAll");
        b.rows("", "printAll(113)=16", "printAll(442)=INVALID", "printAll(131)=16", "printAll(422)=16");
        b.rows("setSheet(4, 4)", "printAll(1133)=32", "printAll(4422)=32", "printAll(4443)=INVALID", "printAll(11331)=INVALID",
                "printAll(113)=INVALID", "printAll(MIN)=INVALID", "printAll(MAX)=INVALID");
        b.promise(7, "INVALID_ARGUMENT if this is no row of folds that makes a booklet of the open sheet");
        for (String otherwise : OTHERWISE) {
            b.rows(otherwise, "printAll(11)=INVALID", "printAll(1133)=INVALID", "printAll(-1)=INVALID", "printAll(5)=INVALID");
        }
        b.row("fold(1) printAll(13)=INVALID printAll(0)=INVALID");
    }

    private static void printAllResults(Bench b) {
        b.promise(7, "Returns the number of sides on which the number, or whether it is upside down, becomes another one");
        b.row("setSheet(1, 1) printAll(0)=2 printAll(0)=0 print(0, 0, 1, 1, 1) printAll(0)=1 print(0, 0, 0, -1, 0)"
                + " printAll(0)=1 print(0, 0, 0, 31, 0) printAll(0)=1 setSpine(1) printAll(0)=1 printAll(0)=0 effort(1)=9");
        b.row("setSheet(4, 4) printAll(1133)=32 printAll(1133)=0");
        b.promise(7, "ILLEGAL_STATE if the sheet has folds, or anything is cut or stapled");
        b.rows("fold(1)", "printAll(113)=ILLEGAL", "unfold() printAll(113)=16", "fold(1) fold(3) printAll(113)=ILLEGAL");
        b.rows("setSheet(1, 1)", "cut(0) printAll(0)=ILLEGAL", "cut(3) printAll(0)=ILLEGAL", "staple(0) printAll(0)=ILLEGAL",
                "staple(9) printAll(0)=ILLEGAL unstaple(9) printAll(0)=2");
    }

    private static void count(Bench b) {
        b.promise(23, "Returns a number");
        b.range("", "count(#)", 0, 15);
        b.promise(23, "INVALID_ARGUMENT if what is out of range");
        b.outside("setSheet(1, 1) cut(0) staple(0)", "count(#)", 0, 15);
        b.promise(23, "what: 0 the rows of the sheet, 1 its columns");
        b.rows("", "setSheet(1, 4) count(0)=1 count(1)=4", "setSheet(4, 1) count(0)=4 count(1)=1",
                "setSheet(4, 4) fold(1) fold(3) count(0)=4 count(1)=4");
        b.promise(23, "2 the number of folds, 3 the layers that each place has, 4 the folds as a number (0 if there are none)");
        b.row("setSheet(4, 4) count(2)=0 count(3)=1 count(4)=0 fold(4) count(2)=1 count(3)=2 count(4)=4 fold(4) count(4)=44"
                + " fold(2) count(3)=8 count(4)=442 fold(2) count(2)=4 count(3)=16 count(4)=4422 unfold() count(2)=3 count(4)=442");
        b.promise(23, "5 1 if the sheet is a booklet and 0 if not");
        b.rows("", "count(5)=0", "setSheet(1, 1) count(5)=1", "setSheet(2, 1) count(5)=0 fold(4) count(5)=1");
        b.promise(23, "6 the set of edges that are cut");
        b.row("setSheet(1, 1) count(6)=0 cut(3) count(6)=8 cut(0) count(6)=9 cut(1) cut(2) count(6)=15");
        b.promise(23, "7 the number of staples, 8 of sights, 9 of notes, 10 of snapshots");
        b.row("setSheet(1, 1) count(7)=0 staple(9) count(7)=1 staple(0) staple(5) count(7)=3 staple(1)=FULL count(7)=3");
        b.row("count(8)=0 7*see(0, 0, 0) count(8)=7 see(0, 0, 0) count(8)=8 see(0, 0, 0)=FULL count(8)=8");
        b.row("count(9)=0 11*addNote(0, 0, 1, 0) count(9)=11 addNote(0, 0, 1, 0) count(9)=12 addNote(0, 0, 1, 0)=FULL count(9)=12");
        b.row("count(10)=0 take(1) count(10)=1 take(1) count(10)=1 take(0) count(10)=2 take(0) count(10)=2");
        b.promise(23, "11 of states in the history, 12 the length of the text");
        b.row("count(11)=0 4*forget() count(11)=4 forget() count(11)=5 forget() count(11)=5");
        b.row("count(12)=0 119*append(32) count(12)=119 append(1) count(12)=120 append(1)=FULL count(12)=120");
        b.promise(23, "13 the lines of a page, 14 the legs, 15 the spine");
        b.row("count(13)=5 setLines(1) count(13)=1 setLines(9) count(13)=9");
        b.row("count(14)=4 setLegs(1) count(14)=1 setLegs(16) count(14)=16");
        b.row("count(15)=0 setSpine(1) count(15)=1");
        for (int what = 0; what <= 15; what++) {
            b.looks("fold(1) 'x'", "count(" + what + ")");
        }
    }

    private static void side(Bench b) {
        b.promise(24, "Tells what is printed on a side of a cell");
        b.looks("print(1, 3, 1, 31, 1) fold(1)", "side(1, 3, 1, 0)=31", "side(1, 3, 1, 1)=1", "side(0, 0, 0, 0)");
        b.promise(24, "row: a row");
        for (int size : SIZES) {
            b.range("setSheet(" + size + ", 2)", "side(#, 1, 0, 0)", 0, size - 1);
        }
        b.promise(24, "column: a column");
        for (int size : SIZES) {
            b.range("setSheet(2, " + size + ")", "side(1, #, 0, 0)", 0, size - 1);
        }
        b.promise(24, "side: 0 or 1");
        b.range("", "side(1, 3, #, 0)", 0, 1);
        b.promise(24, "what: 0 for the number (NONE if there is nothing)");
        b.row("side(1, 3, 1, 0)=NONE print(1, 3, 1, 0, 0) side(1, 3, 1, 0)=0 print(1, 3, 1, 31, 0) side(1, 3, 1, 0)=31"
                + " print(1, 3, 1, -1, 0) side(1, 3, 1, 0)=NONE");
        b.range("", "side(1, 3, 1, #)", 0, 1);
        b.promise(24, "1 for 1 if it is printed upside down and 0 if not (or nothing)");
        b.row("side(0, 0, 0, 1)=0 print(0, 0, 0, 0, 1) side(0, 0, 0, 1)=1 print(0, 0, 0, 0, 0) side(0, 0, 0, 1)=0"
                + " print(0, 0, 0, 0, 1) print(0, 0, 0, -1, 1) side(0, 0, 0, 1)=0");
        b.promise(24, "INVALID_ARGUMENT if an argument is out of range");
        b.row("side(2, 0, 0, 0)=INVALID side(0, 4, 0, 0)=INVALID side(0, 0, 2, 0)=INVALID side(0, 0, 0, 2)=INVALID"
                + " side(2, 4, 2, 2)=INVALID side(-1, -1, -1, -1)=INVALID side(MIN, MAX, MIN, MAX)=INVALID");
    }

    private static void layer(Bench b) {
        b.promise(25, "Tells about a layer of what the sheet has become");
        b.looks("fold(2)", "layer(3, 1, 0)=1", "layer(0, 0, 4)=1");
        b.promise(25, "place: the number of a place: its row times the columns of places that are left, plus its column");
        b.range("setSheet(4, 4)", "layer(#, 0, 0)", 0, 15);
        b.range("setSheet(4, 4) fold(1)", "layer(#, 0, 0)", 0, 7);
        b.range("setSheet(4, 4) fold(3) fold(1)", "layer(#, 3, 0)", 0, 3);
        b.range("setSheet(4, 4) fold(3) fold(1) fold(3) fold(1)", "layer(#, 15, 0)", 0, 0);
        b.range("setSheet(1, 1)", "layer(#, 0, 0)", 0, 0);
        b.row("fold(1) layer(3, 0, 0)=1 layer(3, 0, 1)=0 layer(3, 1, 1)=3 layer(2, 1, 0)=1 layer(2, 1, 1)=2 layer(1, 1, 0)=0");
        b.promise(25, "layer: the number of a layer there, from 0 at the top");
        b.range("setSheet(4, 4)", "layer(0, #, 0)", 0, 0);
        b.range("setSheet(4, 4) fold(1)", "layer(7, #, 0)", 0, 1);
        b.range("setSheet(4, 4) fold(3) fold(1) fold(3) fold(1)", "layer(0, #, 0)", 0, 15);
        b.promise(25, "what: 0 the row of its cell, 1 its column, 2 the side that is up, 3 1 if it is upside down"
                + " and 0 if not, 4 1 if it is mirrored and 0 if not");
        b.range("fold(1)", "layer(3, 1, #)", 0, 4);
        b.row("setSheet(4, 4) " + layer(15, 0, 3, 3, 0, 0, 0));
        b.row("setSheet(4, 4) fold(2) fold(4) " + layer(0, 0, 3, 0, 1, 1, 0) + layer(0, 1, 3, 3, 0, 1, 1)
                + layer(0, 2, 0, 3, 1, 0, 1) + layer(0, 3, 0, 0, 0, 0, 0));
        b.promise(25, "INVALID_ARGUMENT if there is no such place or layer, or what is out of range");
        b.row("layer(8, 0, 0)=INVALID layer(0, 1, 0)=INVALID layer(0, 0, 5)=INVALID layer(8, 1, 5)=INVALID"
                + " layer(-1, -1, -1)=INVALID layer(MAX, MAX, MAX)=INVALID layer(MIN, MIN, MIN)=INVALID");
        b.row("fold(1) layer(4, 0, 0)=INVALID layer(0, 2, 0)=INVALID layer(3, 1, 0)=1");
    }
}
