/** The boundary cases of the booklet: promises 8 to 11, 26 to 32 and 35 and their terms. */
final class BookletEdges {
    private static final String ONE = "setSheet(1, 1) ";
    /** Two leaves that hang together at the left; the cells are columns 0 and 1, the first of them turned over. */
    private static final String LEFT = "setSheet(1, 2) fold(1) ";
    /** Two leaves that hang together at the right: columns 1 and 0. */
    private static final String RIGHT = "setSheet(1, 2) fold(2) ";
    private static final String TOP = "setSheet(2, 1) fold(3) ";
    private static final String BOTTOM = "setSheet(2, 1) fold(4) ";
    /** Columns 2, 1, 0, 3: leaves 0 and 1 hang together right, 1 and 2 left, 0 and 3 left. */
    private static final String STRIP = "setSheet(1, 4) fold(1) fold(1) ";
    /** Sixteen leaves: 8 pairs left, 4 right, 8 at the top, 4 at the bottom. */
    private static final String MOST = "setSheet(4, 4) fold(1) fold(1) fold(3) fold(3) ";
    private static final String PARTED = MOST + "cut(0) cut(1) cut(2) cut(3) ";
    private static final String[] NO_BOOKLETS = {"", "setSheet(1, 2) ", "setSheet(4, 4) fold(3) fold(1) fold(3) "};

    private BookletEdges() {
    }

    static void tests(Bench b) {
        pageTerms(b);
        edgeTerms(b);
        stapleTerms(b);
        openingTerms(b);
        effortTerms(b);
        cut(b);
        staple(b);
        unstaple(b);
        setLegs(b);
        page(b);
        pageAnswers(b);
        opening(b);
        hanging(b);
        together(b);
        pieces(b);
        reading(b);
        pageOf(b);
        effort(b);
    }

    private static void noBooklet(Bench b, String... calls) {
        for (String none : NO_BOOKLETS) {
            for (String call : calls) {
                b.row(none + call + "=ILLEGAL");
            }
        }
    }

    private static void pageTerms(Bench b) {
        b.term("Pages", "A booklet has twice as many pages as leaves");
        b.row(ONE + "page(0, 0)=0 page(1, 0)=0 page(2, 0)=INVALID");
        b.row(LEFT + "page(3, 0)=0 page(4, 0)=INVALID");
        b.row(MOST + "page(31, 0)=3 page(32, 0)=INVALID");
        b.term("Pages", "page 2k is the upper side of leaf k, page 2k + 1 is its lower side");
        b.row(LEFT + "page(0, 1)=0 page(0, 2)=1 page(1, 1)=0 page(1, 2)=0 page(2, 1)=1 page(2, 2)=0 page(3, 1)=1 page(3, 2)=1");
        b.row(ONE + "page(0, 2)=0 page(1, 2)=1");
        b.term("Pages", "The spine is at the left (0, at first) or at the top (1)");
        b.rows("", "count(15)=0", "setSpine(1)=0 count(15)=1", LEFT + "opening(1, 0)=0 setSpine(1) opening(1, 0)=1",
                TOP + "opening(1, 0)=1 setSpine(1) opening(1, 0)=0");
        b.term("Pages", "leaves are turned over about the spine");
        b.row(ONE + "print(0, 0, 1, 1, 0) page(1, 4)=1 setSpine(1) page(1, 4)=0");
        b.term("Pages", "A number that is printed on a page is seen upright if an even number (perhaps none) of these three"
                + " hold: its leaf is upside down; it is printed upside down; the spine is at the top and the page has an odd"
                + " number");
        // The leaves are row 0, upside down, and row 1; pages 0 and 3 are backs.
        b.row("setSheet(2, 1) print(1, 0, 0, 9, 0) fold(3) page(2, 4)=1 setSpine(1) page(2, 4)=1");
        b.row("setSheet(2, 1) print(1, 0, 0, 9, 1) fold(3) page(2, 4)=0 setSpine(1) page(2, 4)=0");
        b.row("setSheet(2, 1) print(0, 0, 1, 9, 0) fold(3) page(0, 4)=0 setSpine(1) page(0, 4)=0");
        b.row("setSheet(2, 1) print(0, 0, 1, 9, 1) fold(3) page(0, 4)=1 setSpine(1) page(0, 4)=1");
        b.row("setSheet(2, 1) print(1, 0, 1, 9, 0) fold(3) page(3, 4)=1 setSpine(1) page(3, 4)=0");
        b.row("setSheet(2, 1) print(1, 0, 1, 9, 1) fold(3) page(3, 4)=0 setSpine(1) page(3, 4)=1");
        b.row("setSheet(2, 1) print(0, 0, 0, 9, 0) fold(3) page(1, 4)=0 setSpine(1) page(1, 4)=1");
        b.row("setSheet(2, 1) print(0, 0, 0, 9, 1) fold(3) page(1, 4)=1 setSpine(1) page(1, 4)=0");
    }

    private static void edgeTerms(Bench b) {
        b.term("Edges, cuts and staples", "Two leaves whose cells are beside each other in the sheet (in one row or in one"
                + " column) hang together along one of the four edges of the booklet: 0 left, 1 right, 2 top, 3 bottom");
        // Leaves: (0, 3), (0, 0), (0, 1), (0, 2), (1, 2), (1, 1), (1, 0), (1, 3); ends of rows are not beside each other.
        b.row("fold(1) fold(1) fold(3) together(0, 6)=0 together(1, 0)=0 together(6, 7)=0 together(1, 5)=0 together(1, 3)=0"
                + " together(0, 7)=4 together(3, 4)=4 together(1, 6)=4 together(1, 2)=1 together(2, 3)=2 together(3, 0)=1");
        hangAsCells(b, 4, 4, 1, 1, 3, 3);
        hangAsCells(b, 4, 4, 4, 2, 1, 3);
        hangAsCells(b, 2, 4, 2, 3, 1);
        hangAsCells(b, 4, 2, 4, 2, 4);
        b.term("Edges, cuts and staples", "For cells in one row this is the right edge if the layer of the left one of them is"
                + " not mirrored, otherwise the left edge");
        b.rows("", RIGHT + "together(0, 1)=2", LEFT + "together(0, 1)=1", STRIP + "together(0, 1)=2 together(1, 2)=1");
        b.term("Edges, cuts and staples", "For cells in one column it is the bottom edge if the layer of the upper one of them"
                + " is not upside down, otherwise the top edge");
        b.rows("", BOTTOM + "together(0, 1)=8", TOP + "together(0, 1)=4",
                "setSheet(4, 1) fold(3) fold(3) together(0, 1)=8 together(1, 2)=4 together(0, 3)=4");
        b.term("Edges, cuts and staples", "A cut at an edge parts all leaves that hang together along it");
        b.row(STRIP + "cut(0)=2 together(1, 2)=0 together(0, 3)=0 together(0, 1)=2 hanging(0)=0 hanging(1)=1 pieces()=3");
        b.row(MOST + "cut(0)=8 hanging(0)=0 cut(2)=8 hanging(2)=0 hanging(1)=4 hanging(3)=4");
    }

    /** Each two leaves of a booklet hang together just as their cells and layers say. */
    private static void hangAsCells(Bench b, int rows, int columns, int... folds) {
        CribBooklet x = null;
        int leaves = rows * columns;
        for (int one = 0; one < leaves; one++) {
            x = new CribBooklet();
            x.setSheet(rows, columns);
            for (int fold : folds) {
                x.fold(fold);
            }
            for (int other = 0; other < leaves; other++) {
                if (one != other) {
                    b.is("together(" + one + ", " + other + ")", x.together(one, other), edges(x, one, other));
                }
            }
        }
    }

    private static int edges(CribBooklet x, int one, int other) {
        int down = x.layer(0, other, 0) - x.layer(0, one, 0);
        int right = x.layer(0, other, 1) - x.layer(0, one, 1);
        if (down + right < 0) {
            return edges(x, other, one);
        }
        if (down == 0 && right == 1) {
            return x.layer(0, one, 4) == 1 ? 1 : 2;
        }
        return down == 1 && right == 0 ? x.layer(0, one, 3) == 1 ? 4 : 8 : 0;
    }

    private static void stapleTerms(Bench b) {
        b.term("Edges, cuts and staples", "There are at most 3 staples");
        b.row(ONE + "staple(0)=1 staple(1)=1 staple(2)=1 staple(3)=FULL count(7)=3 unstaple(1)=2 staple(3)=1 staple(1)=FULL");
        b.term("Edges, cuts and staples", "each at one of the places 0 to 9 of the spine");
        b.row(ONE + "staple(0)=1 staple(9)=1 staple(10)=INVALID staple(-1)=INVALID count(7)=2");
        b.term("Edges, cuts and staples", "The legs of all staples, also of those that are set already, have one length");
        b.row(PARTED + "staple(0)=4 staple(9)=4 pieces()=13 setLegs(5) pieces()=12 setLegs(1) pieces()=16 setLegs(16) pieces()=1");
        b.term("Edges, cuts and staples", "1 to 16 (at first 4)");
        b.row(MOST + "count(14)=4 staple(3)=4 setLegs(1)=4 setLegs(16)=1 setLegs(17)=INVALID setLegs(0)=INVALID count(14)=16");
        b.term("Edges, cuts and staples", "a staple holds together as many leaves, from leaf 0 on, or all if there are not so many");
        for (int legs = 1; legs <= 16; legs++) {
            b.row(PARTED + "setLegs(" + legs + ") staple(5)=" + legs + " pieces()=" + (17 - legs));
        }
        b.row(STRIP + "cut(0) cut(1) setLegs(3) staple(0)=3 pieces()=2 setLegs(4) staple(1)=4 pieces()=1"
                + " setLegs(5) staple(2)=4 pieces()=1 setLegs(16) pieces()=1");
        b.row(STRIP + "cut(1) setLegs(3) staple(0) pieces()=1 setLegs(1) pieces()=2");
        b.row(ONE + "setLegs(1) staple(0)=1 setLegs(16) staple(9)=1 pieces()=1");
        b.term("Edges, cuts and staples", "While anything is cut or stapled, the sheet cannot be folded, unfolded or printed");
        String refused = " fold(1)=ILLEGAL fold(3)=ILLEGAL unfold()=ILLEGAL print(0, 0, 0, 1, 0)=ILLEGAL printAll(0)=ILLEGAL";
        for (String held : new String[] {"cut(0)", "cut(3)", "staple(0)", "staple(9)", "cut(1) staple(5)"}) {
            b.row(ONE + held + refused);
        }
        b.row(LEFT + "staple(0) unfold()=ILLEGAL unstaple(0) unfold()=0 fold(2)=2 unfold()=0 print(0, 1, 1, 5, 1)=NONE");
        b.row(LEFT + "cut(2) unfold()=ILLEGAL undo() unfold()=0");
        b.term("Edges, cuts and staples", "The booklet falls into pieces: two leaves are in one piece if they hang together along an"
                + " edge that is not cut, or are held together by a staple, directly or by way of other leaves");
        b.rows(STRIP, "pieces()=1", "cut(0) pieces()=3", "cut(1) pieces()=2", "cut(0) cut(1) pieces()=4", "cut(2) cut(3) pieces()=1");
        b.row(STRIP + "cut(1) setLegs(2) staple(0) pieces()=1 setLegs(1) pieces()=2 unstaple(0) setLegs(2) pieces()=2");
        b.row(STRIP + "cut(0) setLegs(2) staple(0) pieces()=3 setLegs(3) pieces()=2 setLegs(4) pieces()=1");
        b.row(ONE + "cut(0) cut(1) cut(2) cut(3) pieces()=1");
    }

    private static void openingTerms(Bench b) {
        b.term("Edges, cuts and staples", "Opening 0 is above all leaves, opening k is between leaf k - 1 and leaf k,"
                + " the last opening is below all leaves");
        b.row(ONE + "opening(0, 0)=0 opening(1, 0)=0 opening(2, 0)=INVALID");
        b.rows(RIGHT, "opening(0, 0)=0 opening(1, 0)=1 opening(2, 0)=0 opening(3, 0)=INVALID");
        b.row(MOST + "opening(0, 0)=0 opening(1, 0)=1 opening(15, 0)=1 opening(16, 0)=0 opening(17, 0)=INVALID");
        b.term("Edges, cuts and staples", "An opening is shut if a leaf above it and a leaf below it hang together along an edge that"
                + " is not cut and is not that of the spine (the left one or the top one)");
        b.rows(LEFT, "opening(1, 0)=0", "setSpine(1) opening(1, 0)=1", "setSpine(1) cut(0) opening(1, 0)=0", "cut(1) opening(1, 0)=0");
        b.rows(RIGHT, "opening(1, 0)=1", "setSpine(1) opening(1, 0)=1", "cut(0) cut(2) cut(3) opening(1, 0)=1", "cut(1) opening(1, 0)=0");
        b.rows(TOP, "opening(1, 0)=1", "setSpine(1) opening(1, 0)=0", "cut(2) opening(1, 0)=0", "cut(0) opening(1, 0)=1");
        b.rows(BOTTOM, "opening(1, 0)=1", "setSpine(1) opening(1, 0)=1", "cut(3) opening(1, 0)=0", "cut(2) opening(1, 0)=1");
        b.rows(STRIP, "opening(1, 0)=1 opening(2, 0)=0 opening(3, 0)=0",
                "setSpine(1) opening(1, 0)=1 opening(2, 0)=1 opening(3, 0)=1", "cut(1) opening(1, 0)=0");
        b.term("Edges, cuts and staples", "Page p is at the opening (p + 1) / 2, rounded down; it is hidden if this opening is shut");
        b.row(RIGHT + "page(0, 5)=0 page(1, 5)=1 page(2, 5)=1 page(3, 5)=0");
        b.row(STRIP + "page(0, 5)=0 page(1, 5)=1 page(2, 5)=1 page(3, 5)=0 page(6, 5)=0 page(7, 5)=0");
        b.row(ONE + "page(0, 5)=0 page(1, 5)=0");
        b.row(MOST + "page(0, 5)=0 page(1, 5)=1 page(30, 5)=1 page(31, 5)=0");
        b.term("Edges, cuts and staples", "Page p reads if it is not hidden, the number p is printed on it, and this is seen upright");
        b.row("setSheet(1, 2) printAll(2) fold(2) page(0, 6)=1 page(1, 6)=0 page(2, 6)=0 page(3, 6)=1 cut(1) page(1, 6)=1 page(2, 6)=1");
        b.row("setSheet(1, 2) printAll(2) fold(1) page(0, 6)=0 page(3, 6)=0");
        b.rows(ONE, "page(0, 6)=0", "print(0, 0, 0, 0, 0) page(0, 6)=1 page(1, 6)=0", "print(0, 0, 0, 0, 1) page(0, 6)=0",
                "print(0, 0, 0, 1, 0) page(0, 6)=0", "print(0, 0, 1, 1, 0) page(1, 6)=1 setSpine(1) page(1, 6)=0",
                "print(0, 0, 1, 0, 0) page(1, 6)=0");
        b.row("setSheet(4, 4) printAll(1133) fold(1) fold(1) fold(3) fold(3) page(31, 6)=1 page(30, 6)=0");
    }

    private static void effortTerms(Bench b) {
        b.term("Effort", "Effort is added up in four kinds: 0 folds, 1 prints, 2 cuts, 3 staples");
        b.row("effort(0)=0 effort(1)=0 effort(2)=0 effort(3)=0 effort(5)=INVALID");
        b.row("setSheet(1, 2) print(0, 0, 0, 1, 0) effort(1)=1 effort(0)=0 fold(1) effort(0)=1 cut(1) effort(2)=2 effort(3)=0"
                + " staple(0) effort(3)=3 effort(0)=1 effort(1)=1 effort(2)=2 effort(4)=7");
        b.term("Effort", "A fold counts as much as each place has layers before it, and to take it back counts 1");
        b.row("setSheet(4, 4) fold(1) effort(0)=1 fold(1) effort(0)=3 fold(3) effort(0)=7 fold(3) effort(0)=15 fold(3)=ILLEGAL"
                + " effort(0)=15 unfold() effort(0)=16 unfold() effort(0)=17 unfold() unfold() effort(0)=19 unfold()=ILLEGAL effort(0)=19");
        b.term("Effort", "A print counts 1 for each side on which the number, or whether it is upside down, becomes another one");
        b.row("print(0, 0, 0, -1, 1) effort(1)=0 print(0, 0, 0, 0, 0) effort(1)=1 print(0, 0, 0, 0, 0) effort(1)=1"
                + " print(0, 0, 0, 0, 1) effort(1)=2 print(0, 0, 0, 31, 0) effort(1)=3 print(0, 0, 0, -1, 0) effort(1)=4"
                + " print(0, 0, 0, -1, 1) effort(1)=4 print(0, 0, 0, 32, 0)=INVALID effort(1)=4");
        b.row("setSheet(4, 4) printAll(1133) effort(1)=32 printAll(1133) effort(1)=32 printAll(113)=INVALID effort(1)=32");
        b.term("Effort", "A cut counts as much as there are leaves");
        b.row(ONE + "cut(0)=0 effort(2)=1 cut(0)=ILLEGAL effort(2)=1 cut(4)=INVALID effort(2)=1");
        b.row(PARTED + "effort(2)=64");
        b.term("Effort", "A staple counts 3, and to take it out counts 1");
        b.row(ONE + "staple(0) effort(3)=3 staple(1) staple(2) effort(3)=9 staple(3)=FULL staple(2)=ILLEGAL effort(3)=9"
                + " unstaple(2) effort(3)=10 unstaple(2)=ILLEGAL unstaple(10)=INVALID effort(3)=10 effort(4)=10");
    }

    private static void cut(Bench b) {
        b.promise(8, "Cuts the booklet at an edge");
        b.rows(ONE, "cut(0) count(6)=1", "cut(3) count(6)=8");
        b.promise(8, "This is an action");
        b.action(LEFT, "cut(0)");
        b.action(ONE, "cut(3)");
        b.promise(8, "edge: 0 to 3");
        b.range(ONE, "cut(#)", 0, 3);
        b.promise(8, "Returns the number of pairs of leaves that hung together along it, perhaps 0");
        b.row(MOST + "cut(0)=8 cut(1)=4 cut(2)=8 cut(3)=4");
        b.row(ONE + "cut(0)=0 cut(1)=0 cut(2)=0 cut(3)=0");
        b.row(LEFT + "cut(0)=1 cut(1)=0 cut(2)=0 cut(3)=0");
        b.row(BOTTOM + "cut(3)=1 cut(2)=0");
        b.promise(8, "INVALID_ARGUMENT if edge is out of range");
        for (String none : NO_BOOKLETS) {
            b.rows(none, "cut(4)=INVALID", "cut(-1)=INVALID");
        }
        b.row(PARTED + "cut(4)=INVALID cut(-1)=INVALID cut(32)=INVALID");
        b.promise(8, "ILLEGAL_STATE if the sheet is no booklet");
        noBooklet(b, "cut(0)", "cut(3)");
        b.promise(8, "or it is cut there");
        for (int edge = 0; edge < 4; edge++) {
            b.row(LEFT + "cut(" + edge + ") cut(" + edge + ")=ILLEGAL cut(" + (3 - edge) + ")");
        }
    }

    private static void staple(Bench b) {
        b.promise(9, "Sets a staple");
        b.rows(ONE, "staple(0) count(7)=1", "staple(9) count(7)=1");
        b.promise(9, "This is an action");
        b.action(ONE, "staple(0)");
        b.action(STRIP + "cut(0) cut(1)", "staple(9)");
        b.promise(9, "place: 0 to 9");
        b.range(ONE, "staple(#)", 0, 9);
        b.promise(9, "Returns the number of leaves that it holds");
        b.row(MOST + "staple(0)=4 setLegs(1) staple(1)=1 setLegs(16) staple(2)=16");
        b.row(LEFT + "setLegs(1) staple(0)=1 setLegs(2) staple(1)=2 setLegs(3) staple(2)=2");
        b.promise(9, "INVALID_ARGUMENT if place is out of range");
        for (String none : NO_BOOKLETS) {
            b.rows(none, "staple(10)=INVALID", "staple(-1)=INVALID");
        }
        b.row(ONE + "staple(1) staple(2) staple(3) staple(10)=INVALID staple(-1)=INVALID staple(33)=INVALID");
        b.promise(9, "ILLEGAL_STATE if the sheet is no booklet");
        noBooklet(b, "staple(0)", "staple(9)");
        b.promise(9, "or there is one at this place");
        b.rows(ONE, "staple(0) staple(0)=ILLEGAL", "staple(9) staple(9)=ILLEGAL staple(8)=1", "staple(0) unstaple(0) staple(0)=1",
                "staple(0) staple(5) staple(9) staple(0)=ILLEGAL staple(5)=ILLEGAL staple(9)=ILLEGAL staple(4)=FULL");
        b.promise(9, "CAPACITY_EXCEEDED if there are 3");
        b.row(ONE + "staple(9) staple(8) staple(0)=1 staple(1)=FULL staple(7)=FULL unstaple(8) staple(7)=1");
    }

    private static void unstaple(Bench b) {
        b.promise(10, "Takes a staple out");
        b.row(ONE + "staple(0) staple(9) unstaple(9) count(7)=1 unstaple(0) count(7)=0");
        b.promise(10, "This is an action");
        b.action(ONE + "staple(9)", "unstaple(9)");
        b.promise(10, "place: 0 to 9");
        for (int place = 0; place <= 9; place++) {
            b.row(ONE + "staple(" + place + ") unstaple(" + place + ")=0");
        }
        b.outside(ONE + "staple(0) staple(9)", "unstaple(#)", 0, 9);
        b.promise(10, "Returns the number of staples that are left");
        b.row(ONE + "staple(0) staple(4) staple(9) unstaple(4)=2 unstaple(9)=1 unstaple(0)=0");
        b.promise(10, "INVALID_ARGUMENT if place is out of range");
        b.rows("", "unstaple(10)=INVALID", "unstaple(-1)=INVALID", ONE + "unstaple(10)=INVALID");
        b.promise(10, "ILLEGAL_STATE if there is none at this place");
        b.rows(ONE, "unstaple(0)=ILLEGAL", "staple(0) unstaple(1)=ILLEGAL unstaple(9)=ILLEGAL unstaple(0)=0 unstaple(0)=ILLEGAL");
        noBooklet(b, "unstaple(0)", "unstaple(9)");
    }

    private static void setLegs(Bench b) {
        b.promise(11, "Sets the legs");
        b.row("setLegs(16) count(14)=16 setLegs(1) count(14)=1");
        b.promise(11, "This is an action");
        b.action("", "setLegs(16)");
        b.action("", "setLegs(4)");
        b.promise(11, "legs: 1 to 16");
        b.range("", "setLegs(#)", 1, 16);
        b.promise(11, "Returns the previous legs");
        b.row("setLegs(1)=4 setLegs(16)=1 setLegs(16)=16");
        b.promise(11, "INVALID_ARGUMENT if legs is out of range");
        b.row(ONE + "staple(0) cut(0) setLegs(0)=INVALID setLegs(17)=INVALID setLegs(16)=4");
    }

    private static void page(Bench b) {
        b.promise(26, "Tells about a page of the booklet");
        b.looks(STRIP + "addNote(0, 0, 9, 1)", "page(0, 0)", "page(7, 3)", "page(3, 7)", "page(1, 5)", "page(0, 6)");
        b.promise(26, "page: a page");
        b.range(ONE, "page(#, 0)", 0, 1);
        b.range(LEFT, "page(#, 5)", 0, 3);
        b.range(MOST, "page(#, 7)", 0, 31);
        b.promise(26, "what: 0 the row of its cell");
        b.range(LEFT, "page(3, #)", 0, 7);
        b.promise(26, "ILLEGAL_STATE if the sheet is no booklet");
        noBooklet(b, "page(0, 0)", "page(0, 7)", "page(-1, 0)", "page(32, 0)", "page(0, 8)", "page(0, -1)", "page(-1, 8)");
        b.promise(26, "INVALID_ARGUMENT if there is no such page or what is out of range");
        b.row(ONE + "page(2, 0)=INVALID page(0, 8)=INVALID page(2, 8)=INVALID page(2, 3)=INVALID page(-1, 4)=INVALID"
                + " page(MAX, MAX)=INVALID page(MIN, MIN)=INVALID page(0, -1)=INVALID");
    }

    private static void pageAnswers(Bench b) {
        b.promise(26, "0 the row of its cell, 1 the column, 2 the side");
        b.row(ONE + "page(0, 0)=0 page(0, 1)=0 page(0, 2)=0 page(1, 0)=0 page(1, 1)=0 page(1, 2)=1");
        b.row("setSheet(2, 2) fold(2) fold(4) page(0, 0)=1 page(0, 1)=0 page(0, 2)=1 page(2, 1)=1 page(2, 2)=0 page(7, 0)=0 page(7, 1)=0");
        b.promise(26, "3 the number printed on it (NONE if there is nothing)");
        b.row(ONE + "page(0, 3)=NONE print(0, 0, 0, 0, 1) page(0, 3)=0 print(0, 0, 0, 31, 0) page(0, 3)=31 page(1, 3)=NONE"
                + " print(0, 0, 0, -1, 0) page(0, 3)=NONE");
        b.promise(26, "4 1 if this is seen upright and 0 if upside down (NONE if there is nothing)");
        b.row(ONE + "page(0, 4)=NONE print(0, 0, 0, 0, 1) page(0, 4)=0 print(0, 0, 0, 0, 0) page(0, 4)=1 page(1, 4)=NONE"
                + " print(0, 0, 0, -1, 1) page(0, 4)=NONE setSpine(1) page(1, 4)=NONE");
        b.promise(26, "5 1 if the page is hidden and 0 if not, 6 1 if it reads and 0 if not");
        b.row("setSheet(1, 2) printAll(2) fold(2) page(1, 5)=1 page(1, 6)=0 page(0, 5)=0 page(0, 6)=1 page(3, 5)=0 page(3, 6)=1");
        b.promise(26, "7 the number of its lines that notes have taken");
        b.row(ONE + "page(0, 7)=0 setLines(9) addNote(0, 0, 9, 0) page(0, 7)=9 page(1, 7)=0 addNote(0, 0, 1, 0) page(1, 7)=1"
                + " addNote(0, 0, 9, 0) page(0, 7)=9 page(1, 7)=1 addNote(0, 0, 8, 1) page(1, 7)=9");
        b.row(RIGHT + "addNote(0, 0, 6, 0) page(0, 7)=5 page(1, 7)=0 page(2, 7)=0 page(3, 7)=1");
        b.row(ONE + "setLines(1) addNote(0, 0, 3, 0) page(0, 7)=0 page(1, 7)=0");
        b.row(ONE + "addNote(0, 1, 2, 0) addNote(0, 0, 4, 1) page(0, 7)=2 page(1, 7)=4");
    }

    private static void opening(Bench b) {
        b.promise(27, "Tells about an opening of the booklet");
        b.looks(STRIP, "opening(0, 0)", "opening(1, 1)", "opening(4, 2)");
        b.promise(27, "opening: 0 to the number of leaves");
        b.range(ONE, "opening(#, 0)", 0, 1);
        b.range(LEFT, "opening(#, 1)", 0, 2);
        b.range(MOST, "opening(#, 2)", 0, 16);
        b.promise(27, "what: 0 for 1 if it is shut and 0 if not");
        b.range(ONE, "opening(1, #)", 0, 2);
        b.row(RIGHT + "opening(0, 0)=0 opening(1, 0)=1 opening(2, 0)=0 cut(1) opening(1, 0)=0");
        b.promise(27, "1 for the set of edges along which leaves shut it");
        b.row(STRIP + "opening(0, 1)=0 opening(1, 1)=2 opening(2, 1)=0 opening(3, 1)=0 opening(4, 1)=0 setSpine(1)"
                + " opening(0, 1)=0 opening(1, 1)=3 opening(2, 1)=1 opening(3, 1)=1 opening(4, 1)=0 cut(0) opening(1, 1)=2 opening(2, 1)=0");
        b.rows("", TOP + "opening(1, 1)=4 setSpine(1) opening(1, 1)=0", BOTTOM + "opening(1, 1)=8 cut(3) opening(1, 1)=0");
        b.row("setSheet(2, 2) fold(2) fold(4) setSpine(1) opening(2, 1)=8 opening(1, 1)=10 opening(3, 1)=10 cut(3) opening(2, 1)=0");
        b.promise(27, "2 for the number of lines of its pages that are not hidden");
        b.row(STRIP + "opening(0, 2)=5 opening(1, 2)=0 opening(2, 2)=10 opening(4, 2)=5 setLines(1) opening(0, 2)=1 opening(1, 2)=0"
                + " opening(2, 2)=2 opening(4, 2)=1 setLines(9) opening(0, 2)=9 opening(3, 2)=18 opening(4, 2)=9");
        b.row(ONE + "opening(0, 2)=5 opening(1, 2)=5");
        b.promise(27, "ILLEGAL_STATE if the sheet is no booklet");
        noBooklet(b, "opening(0, 0)", "opening(0, 2)", "opening(-1, 0)", "opening(17, 0)", "opening(0, 3)", "opening(0, -1)");
        b.promise(27, "INVALID_ARGUMENT if an argument is out of range");
        b.row(ONE + "opening(2, 0)=INVALID opening(-1, 0)=INVALID opening(0, 3)=INVALID opening(0, -1)=INVALID opening(2, 3)=INVALID"
                + " opening(MAX, MAX)=INVALID opening(MIN, MIN)=INVALID");
    }

    private static void hanging(Bench b) {
        b.promise(28, "Tells how many pairs of leaves hang together along an edge");
        b.looks(STRIP, "hanging(0)=2", "hanging(3)=0");
        b.promise(28, "edge: 0 to 3");
        b.range(MOST, "hanging(#)", 0, 3);
        b.promise(28, "Returns the number of pairs, 0 if it is cut");
        b.row(MOST + "hanging(0)=8 hanging(1)=4 hanging(2)=8 hanging(3)=4 cut(0) hanging(0)=0 cut(3) hanging(3)=0 hanging(1)=4 hanging(2)=8");
        b.row(ONE + "hanging(0)=0 hanging(1)=0 hanging(2)=0 hanging(3)=0");
        b.rows("", LEFT + "hanging(0)=1 hanging(1)=0", RIGHT + "hanging(1)=1 hanging(0)=0", TOP + "hanging(2)=1 hanging(3)=0",
                BOTTOM + "hanging(3)=1 hanging(2)=0");
        b.promise(28, "ILLEGAL_STATE if the sheet is no booklet");
        noBooklet(b, "hanging(0)", "hanging(3)", "hanging(4)", "hanging(-1)");
        b.promise(28, "INVALID_ARGUMENT if edge is out of range");
        b.row(ONE + "hanging(4)=INVALID hanging(-1)=INVALID");
    }

    private static void together(Bench b) {
        b.promise(29, "Tells along which edges that are not cut two leaves hang together");
        b.looks(STRIP, "together(0, 1)=2", "together(1, 2)=1");
        b.row(STRIP + "cut(1) together(0, 1)=0 together(1, 2)=1 cut(0) together(1, 2)=0");
        b.promise(29, "one: a leaf");
        b.range(MOST, "together(#, 0)", 1, 15);
        b.range(MOST, "together(#, 15)", 0, 14);
        b.promise(29, "other: another leaf");
        b.range(MOST, "together(0, #)", 1, 15);
        b.range(MOST, "together(15, #)", 0, 14);
        b.promise(29, "Returns the set of edges");
        b.rows("", LEFT + "together(0, 1)=1 together(1, 0)=1", RIGHT + "together(0, 1)=2", TOP + "together(1, 0)=4",
                BOTTOM + "together(0, 1)=8", STRIP + "together(1, 3)=0");
        b.promise(29, "ILLEGAL_STATE if the sheet is no booklet");
        noBooklet(b, "together(0, 1)", "together(0, 0)", "together(-1, 0)", "together(0, 16)");
        b.promise(29, "INVALID_ARGUMENT if there are no such leaves, or both are the same");
        b.row(ONE + "together(0, 0)=INVALID together(0, 1)=INVALID together(1, 0)=INVALID together(1, 1)=INVALID");
        b.row(LEFT + "together(0, 0)=INVALID together(1, 1)=INVALID together(0, 2)=INVALID together(2, 0)=INVALID"
                + " together(-1, 0)=INVALID together(0, -1)=INVALID together(2, 3)=INVALID together(MIN, MAX)=INVALID");
    }

    private static void pieces(Bench b) {
        b.promise(30, "Tells into how many pieces the booklet falls");
        b.looks(STRIP + "cut(0)", "pieces()=3");
        b.promise(30, "Returns the number of pieces");
        b.rows("", ONE + "pieces()=1", ONE + "cut(0) pieces()=1", LEFT + "pieces()=1 cut(0) pieces()=2", MOST + "pieces()=1",
                PARTED + "pieces()=16 staple(9) pieces()=13 setLegs(16) pieces()=1 unstaple(9) pieces()=16");
        b.row(MOST + "cut(0) cut(2) cut(3) pieces()=12 undo() pieces()=9");
        b.promise(30, "ILLEGAL_STATE if the sheet is no booklet");
        noBooklet(b, "pieces()");
    }

    private static void reading(Bench b) {
        String all = "setSheet(4, 4) printAll(1133) fold(1) fold(1) fold(3) fold(3) cut(1) cut(2) cut(3) ";
        b.promise(31, "Tells how far the booklet reads");
        b.looks("setSheet(1, 2) printAll(2) fold(2)", "reading(0)=1", "reading(1)=1", "reading(2)=1");
        b.promise(31, "what: 0 for the number of pages that read one after another from page 0 on");
        b.rows("", all + "reading(0)=32", ONE + "reading(0)=0", ONE + "printAll(0) reading(0)=2",
                ONE + "printAll(0) print(0, 0, 1, 2, 0) reading(0)=1", ONE + "printAll(0) print(0, 0, 0, 2, 0) reading(0)=0");
        b.row("setSheet(4, 4) printAll(1133) print(3, 3, 1, 30, 0) fold(1) fold(1) fold(3) fold(3) cut(1) cut(2) cut(3) reading(0)=31");
        b.promise(31, "1 for the first page that does not read (NONE if all do)");
        b.rows("", all + "reading(1)=NONE", ONE + "reading(1)=0", ONE + "printAll(0) reading(1)=NONE",
                ONE + "printAll(0) print(0, 0, 1, 2, 0) reading(1)=1", ONE + "print(0, 0, 1, 1, 0) reading(1)=0");
        b.promise(31, "2 for the first reason that applies to that page: 1 it is hidden, 2 nothing is printed on it,"
                + " 3 it is another number, 4 it is seen upside down (NONE if all read)");
        b.rows("", all + "reading(2)=NONE", ONE + "printAll(0) reading(2)=NONE");
        // Page 0 reads; page 1, the front of column 1, is hidden.
        b.rows("setSheet(1, 2) print(0, 1, 1, 0, 0)", "fold(2) reading(2)=1 cut(1) reading(2)=2",
                "print(0, 1, 0, 9, 1) fold(2) reading(2)=1 cut(1) reading(2)=3", "print(0, 1, 0, 1, 1) fold(2) reading(2)=1 cut(1) reading(2)=4",
                "print(0, 1, 0, 1, 0) fold(2) reading(2)=1 reading(1)=1 cut(1) reading(2)=2 reading(1)=2");
        b.rows(ONE, "reading(2)=2", "print(0, 0, 0, 31, 1) reading(2)=3", "print(0, 0, 0, 0, 1) reading(2)=4", "print(0, 0, 0, 1, 0) reading(2)=3");
        b.range(ONE, "reading(#)", 0, 2);
        b.promise(31, "ILLEGAL_STATE if the sheet is no booklet");
        noBooklet(b, "reading(0)", "reading(2)", "reading(3)", "reading(-1)");
        b.promise(31, "INVALID_ARGUMENT if what is out of range");
        b.rows(ONE + "printAll(0)", "reading(3)=INVALID", "reading(-1)=INVALID");
        b.rows("setSheet(1, 2) fold(2)", "reading(3)=INVALID", "reading(-1)=INVALID");
    }

    private static void pageOf(Bench b) {
        b.promise(32, "Finds the lowest page of the booklet on which a number is printed");
        b.looks("setSheet(1, 2) printAll(2) fold(2)", "pageOf(3)=3", "pageOf(4)=NONE");
        b.row("setSheet(1, 2) print(0, 0, 1, 5, 0) print(0, 1, 1, 5, 1) fold(2) pageOf(5)=0");
        b.row("setSheet(1, 2) print(0, 0, 1, 5, 0) print(0, 1, 0, 5, 1) fold(2) pageOf(5)=1");
        b.row("setSheet(1, 2) print(0, 0, 1, 5, 0) fold(2) pageOf(5)=3");
        b.promise(32, "number: 0 to 31");
        b.range(ONE, "pageOf(#)", 0, 31);
        b.promise(32, "Returns the page");
        b.row("setSheet(4, 4) printAll(1133) fold(1) fold(1) fold(3) fold(3) pageOf(0)=0 pageOf(1)=1 pageOf(30)=30 pageOf(31)=31");
        b.promise(32, "ILLEGAL_STATE if the sheet is no booklet");
        noBooklet(b, "pageOf(0)", "pageOf(31)", "pageOf(32)", "pageOf(-1)", "pageOf(NONE)");
        b.promise(32, "INVALID_ARGUMENT if number is out of range");
        b.row(ONE + "pageOf(32)=INVALID pageOf(-1)=INVALID pageOf(NONE)=INVALID");
        b.promise(32, "NONE if there is none");
        b.rows(ONE, "pageOf(0)=NONE pageOf(31)=NONE", "print(0, 0, 1, 31, 1) pageOf(31)=1 pageOf(30)=NONE",
                "print(0, 0, 1, 31, 1) print(0, 0, 1, -1, 1) pageOf(31)=NONE");
    }

    private static void effort(Bench b) {
        b.promise(35, "Returns effort");
        b.looks(LEFT + "cut(1)", "effort(0)=1", "effort(4)=3");
        b.promise(35, "kind: 0 to 3, or 4 for all four together");
        b.range("", "effort(#)", 0, 4);
        b.row("setSheet(1, 2) printAll(1) fold(1) cut(0) staple(9) effort(0)=1 effort(1)=4 effort(2)=2 effort(3)=3 effort(4)=10");
        b.promise(35, "Returns the effort so far");
        b.row("effort(4)=0 fold(1) effort(4)=1 unfold() effort(4)=2 undo() effort(4)=1 setSheet(1, 1) effort(4)=1");
        b.row("take(0) fold(1) restore(0) effort(4)=0 undo() effort(4)=1");
        b.promise(35, "INVALID_ARGUMENT if kind is out of range");
        b.row("effort(5)=INVALID effort(-1)=INVALID");
    }
}
