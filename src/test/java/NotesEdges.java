/** The boundary cases of notes, of how they are laid out and of the index: promises 14 to 16, 33 and 34 and their terms. */
final class NotesEdges {
    /** Lines 0 to 4 on page 0, 5 to 9 on page 1, each page an opening. */
    private static final String ONE = "setSheet(1, 1) ";
    /** Openings: lines 0 to 4 (page 0), 5 to 14 (pages 1 and 2), 15 to 19 (page 3). */
    private static final String TWO = "setSheet(1, 2) fold(1) ";
    /** Pages 1 and 2 are hidden: lines 0 to 4 (page 0), 5 to 9 (page 3). */
    private static final String SHUT = "setSheet(1, 2) fold(2) ";
    /** Pages 1 and 2 are hidden: lines 0 to 4 (page 0), 5 to 14 (pages 3, 4), 15 to 24 (pages 5, 6), 25 to 29 (page 7). */
    private static final String STRIP = "setSheet(1, 4) fold(1) fold(1) ";
    private static final String FULL = "12*addNote(0, 0, 1, 0) ";

    private NotesEdges() {
    }

    static void tests(Bench b) {
        noteTerms(b);
        lineTerms(b);
        orderTerms(b);
        splitTerms(b);
        wholeTerms(b);
        otherTerms(b);
        indexTerms(b);
        addNote(b);
        removeNote(b);
        setLines(b);
        note(b);
        index(b);
    }

    /** Where a note begins and ends: page, line on it, last page. */
    private static String at(int note, int page, int line, int last) {
        return " note(" + note + ", 4)=" + page + " note(" + note + ", 5)=" + line + " note(" + note + ", 6)=" + last;
    }

    private static String noRoom(int note) {
        return at(note, Call.NONE, Call.NONE, Call.NONE);
    }

    private static void noteTerms(Bench b) {
        b.term("Notes", "There are at most 12 notes, numbered from 0 in the order in which they were added");
        b.row("addNote(5, 0, 1, 0)=0 addNote(4, 9, 1, 0)=1 addNote(3, 0, 1, 0)=2 note(0, 0)=5 note(1, 0)=4 note(2, 0)=3 note(3, 0)=INVALID");
        b.row("11*addNote(0, 0, 1, 0) addNote(99, 0, 1, 0)=11 addNote(98, 0, 1, 0)=FULL count(9)=12 note(11, 0)=99 note(12, 0)=INVALID");
        b.term("Notes", "when one is removed, the numbers of those behind it become smaller by 1");
        String three = "addNote(10, 0, 1, 0) addNote(11, 1, 2, 1) addNote(12, 2, 3, 0) ";
        b.rows(three, "removeNote(0)=2 note(0, 0)=11 note(0, 3)=1 note(1, 0)=12 note(1, 2)=3 note(2, 0)=INVALID",
                "removeNote(1)=2 note(0, 0)=10 note(1, 0)=12 note(1, 1)=2 note(2, 0)=INVALID",
                "removeNote(2)=2 note(0, 0)=10 note(1, 0)=11 note(2, 0)=INVALID addNote(13, 0, 1, 0)=2 note(2, 0)=13");
        b.row("11*addNote(1, 0, 1, 0) addNote(99, 9, 20, 1) removeNote(0)=11 note(10, 0)=99 note(10, 1)=9 note(10, 2)=20 note(10, 3)=1"
                + " note(11, 0)=INVALID");
        b.term("Notes", "A note has a subject, 0 to 99, an urgency, 0 to 9, and 1 to 20 lines; it is whole or not");
        b.row("addNote(0, 0, 1, 0) note(0, 0)=0 note(0, 1)=0 note(0, 2)=1 note(0, 3)=0");
        b.row("addNote(99, 9, 20, 1) note(0, 0)=99 note(0, 1)=9 note(0, 2)=20 note(0, 3)=1");
        b.row("addNote(100, 0, 1, 0)=INVALID addNote(0, 10, 1, 0)=INVALID addNote(0, 0, 21, 0)=INVALID addNote(0, 0, 0, 0)=INVALID");
    }

    private static void lineTerms(Bench b) {
        b.term("Notes", "Each page of the booklet that is not hidden has as many lines as are set, 1 to 9 (at first 5)");
        b.rows(ONE, "addNote(0, 0, 10, 0)" + at(0, 0, 0, 1), "addNote(0, 0, 11, 0)" + noRoom(0),
                "setLines(1) addNote(0, 0, 2, 0)" + at(0, 0, 0, 1), "setLines(1) addNote(0, 0, 3, 0)" + noRoom(0),
                "setLines(9) addNote(0, 0, 18, 0)" + at(0, 0, 0, 1), "setLines(9) addNote(0, 0, 19, 0)" + noRoom(0));
        b.rows(SHUT, "addNote(0, 0, 10, 0)" + at(0, 0, 0, 3), "addNote(0, 0, 11, 0)" + noRoom(0) + " cut(1)" + at(0, 0, 0, 2),
                "cut(1) addNote(0, 0, 20, 0)" + at(0, 0, 0, 3));
        b.row("setSheet(4, 4) fold(1) fold(1) fold(3) fold(3) cut(1) cut(2) cut(3) setLines(9) 9*addNote(0, 0, 20, 0)"
                + " 3*addNote(0, 0, 18, 0)" + at(11, 24, 0, 25));
        b.term("Notes", "These lines are numbered from 0 through all such pages, by ascending pages");
        b.row(SHUT + "addNote(0, 1, 6, 0) addNote(0, 0, 4, 0)" + at(0, 0, 0, 3) + at(1, 3, 1, 3));
        b.row(TWO + "addNote(0, 9, 5, 0) addNote(0, 8, 5, 0) addNote(0, 7, 5, 0) addNote(0, 6, 5, 0)" + at(0, 0, 0, 0) + at(1, 1, 0, 1)
                + at(2, 2, 0, 2) + at(3, 3, 0, 3));
        b.row(STRIP + "addNote(0, 9, 4, 0) addNote(0, 8, 20, 0) addNote(0, 7, 6, 0)" + at(0, 0, 0, 0) + at(1, 0, 4, 6) + at(2, 6, 4, 7));
        b.term("Notes", "The next line is line 0 at first");
        b.rows("", ONE + "addNote(0, 0, 1, 0)" + at(0, 0, 0, 0), STRIP + "addNote(0, 0, 1, 1)" + at(0, 0, 0, 0));
    }

    private static void orderTerms(Bench b) {
        b.term("Notes", "The notes are laid out one after another: by descending urgency");
        b.row(ONE + "addNote(0, 0, 1, 0) addNote(0, 9, 1, 0) addNote(0, 8, 1, 0)" + at(1, 0, 0, 0) + at(2, 0, 1, 0) + at(0, 0, 2, 0));
        b.row(ONE + "addNote(0, 0, 1, 0) addNote(99, 1, 1, 0)" + at(1, 0, 0, 0) + at(0, 0, 1, 0));
        b.term("Notes", "of the same urgency by ascending subjects");
        b.row(ONE + "addNote(99, 5, 1, 0) addNote(0, 5, 1, 0) addNote(1, 5, 1, 0)" + at(1, 0, 0, 0) + at(2, 0, 1, 0) + at(0, 0, 2, 0));
        b.row(ONE + "addNote(9, 0, 1, 0) addNote(8, 0, 1, 0) addNote(7, 0, 1, 0) addNote(6, 0, 1, 0) addNote(5, 0, 1, 0) addNote(4, 0, 1, 0)"
                + " addNote(3, 0, 1, 0) addNote(2, 0, 1, 0) addNote(1, 0, 1, 0) addNote(0, 0, 1, 0)" + at(9, 0, 0, 0) + at(5, 0, 4, 0)
                + at(4, 1, 0, 1) + at(0, 1, 4, 1));
        b.term("Notes", "of the same subject by ascending numbers");
        b.row(ONE + "addNote(7, 3, 2, 0) addNote(7, 3, 1, 1) addNote(7, 3, 1, 0)" + at(0, 0, 0, 0) + at(1, 0, 2, 0) + at(2, 0, 3, 0)
                + " removeNote(0)" + at(0, 0, 0, 0) + at(1, 0, 1, 0));
        b.row(ONE + "setLines(6) 12*addNote(0, 0, 1, 0)" + at(0, 0, 0, 0) + at(5, 0, 5, 0) + at(6, 1, 0, 1) + at(11, 1, 5, 1));
    }

    private static void splitTerms(Bench b) {
        b.term("Notes", "A note that is not whole takes its lines from the next line on");
        b.rows(TWO + "addNote(0, 9, 4, 0)", "addNote(0, 0, 1, 0)" + at(1, 0, 4, 0), "addNote(0, 0, 2, 0)" + at(1, 0, 4, 1),
                "addNote(0, 0, 6, 0)" + at(1, 0, 4, 1), "addNote(0, 0, 7, 0)" + at(1, 0, 4, 2), "addNote(0, 0, 12, 0)" + at(1, 0, 4, 3));
        b.row(STRIP + "addNote(0, 9, 4, 0) addNote(0, 0, 2, 0)" + at(1, 0, 4, 3));
        b.term("Notes", "it has no room if there are not so many");
        b.rows(TWO, "addNote(0, 0, 20, 0)" + at(0, 0, 0, 3), "addNote(0, 9, 1, 0) addNote(0, 0, 20, 0)" + noRoom(1),
                "addNote(0, 9, 1, 0) addNote(0, 0, 19, 0)" + at(1, 0, 1, 3), "addNote(0, 9, 19, 0) addNote(0, 0, 1, 0)" + at(1, 3, 4, 3),
                "addNote(0, 9, 19, 0) addNote(0, 0, 2, 0)" + noRoom(1), "addNote(0, 9, 20, 0) addNote(0, 0, 1, 0)" + noRoom(1));
    }

    private static void wholeTerms(Bench b) {
        b.term("Notes", "A whole note takes its lines from the next line on if all of them are there and at one opening"
                + " (on one of its pages or on both)");
        b.rows(TWO, "addNote(0, 0, 5, 1)" + at(0, 0, 0, 0), "addNote(0, 9, 2, 0) addNote(0, 0, 3, 1)" + at(1, 0, 2, 0));
        b.rows(TWO + "addNote(0, 9, 7, 0)", "addNote(0, 0, 3, 1)" + at(1, 1, 2, 1), "addNote(0, 0, 4, 1)" + at(1, 1, 2, 2),
                "addNote(0, 0, 8, 1)" + at(1, 1, 2, 2), "addNote(0, 0, 9, 1)" + noRoom(1));
        b.rows(TWO + "addNote(0, 9, 5, 0)", "addNote(0, 0, 10, 1)" + at(1, 1, 0, 2), "addNote(0, 0, 11, 1)" + noRoom(1));
        b.rows(TWO + "addNote(0, 9, 15, 0)", "addNote(0, 0, 5, 1)" + at(1, 3, 0, 3), "addNote(0, 0, 6, 1)" + noRoom(1));
        b.rows(TWO + "addNote(0, 9, 16, 0)", "addNote(0, 0, 4, 1)" + at(1, 3, 1, 3), "addNote(0, 0, 5, 1)" + noRoom(1));
        b.rows(TWO + "addNote(0, 9, 19, 0)", "addNote(0, 0, 1, 1)" + at(1, 3, 4, 3), "addNote(0, 0, 2, 1)" + noRoom(1));
        b.row(TWO + "addNote(0, 9, 20, 0) addNote(0, 0, 1, 1)" + noRoom(1));
        b.term("Notes", "otherwise it takes them from the first line of the first opening behind that of the next line"
                + " that has at least so many lines");
        b.rows(TWO, "addNote(0, 0, 6, 1)" + at(0, 1, 0, 2), "addNote(0, 0, 10, 1)" + at(0, 1, 0, 2),
                "addNote(0, 9, 1, 0) addNote(0, 0, 4, 1)" + at(1, 0, 1, 0), "addNote(0, 9, 1, 0) addNote(0, 0, 5, 1)" + at(1, 1, 0, 1),
                "addNote(0, 9, 11, 0) addNote(0, 0, 5, 1)" + at(1, 3, 0, 3), "addNote(0, 9, 11, 0) addNote(0, 0, 4, 1)" + at(1, 2, 1, 2));
        b.rows(STRIP, "addNote(0, 0, 6, 1)" + at(0, 3, 0, 4), "addNote(0, 9, 1, 0) addNote(0, 0, 5, 1)" + at(1, 3, 0, 3),
                "addNote(0, 9, 6, 0) addNote(0, 0, 9, 1)" + at(1, 3, 1, 4), "addNote(0, 9, 6, 0) addNote(0, 0, 10, 1)" + at(1, 5, 0, 6),
                "addNote(0, 9, 16, 0) addNote(0, 0, 9, 1)" + at(1, 5, 1, 6), "addNote(0, 9, 16, 0) addNote(0, 0, 10, 1)" + noRoom(1),
                "addNote(0, 9, 20, 0) addNote(0, 8, 1, 0) addNote(0, 0, 5, 1)" + at(2, 7, 0, 7));
        b.row(STRIP + "addNote(0, 9, 6, 1) addNote(0, 8, 5, 1) addNote(0, 7, 5, 1)" + at(0, 3, 0, 4) + at(1, 5, 0, 5) + at(2, 6, 0, 6));
        b.term("Notes", "it has no room if there is no such opening");
        b.rows("", ONE + "addNote(0, 0, 5, 1)" + at(0, 0, 0, 0), ONE + "addNote(0, 0, 6, 1)" + noRoom(0), TWO + "addNote(0, 0, 11, 1)" + noRoom(0),
                TWO + "setLines(9) addNote(0, 0, 18, 1)" + at(0, 1, 0, 2), TWO + "setLines(9) addNote(0, 0, 19, 1)" + noRoom(0),
                SHUT + "addNote(0, 0, 6, 1)" + noRoom(0), ONE + "setLines(1) addNote(0, 0, 1, 1)" + at(0, 0, 0, 0),
                ONE + "setLines(1) addNote(0, 0, 2, 1)" + noRoom(0));
    }

    private static void otherTerms(Bench b) {
        b.term("Notes", "Behind a note that has room, the next line is the one behind its last line");
        b.rows(TWO, "addNote(0, 9, 1, 0) addNote(0, 8, 1, 0)" + at(1, 0, 1, 0), "addNote(0, 9, 6, 1) addNote(0, 8, 1, 0)" + at(1, 2, 1, 2),
                "addNote(0, 9, 10, 1) addNote(0, 8, 1, 0)" + at(1, 3, 0, 3), "addNote(0, 9, 5, 1) addNote(0, 8, 1, 1)" + at(1, 1, 0, 1));
        b.term("Notes", "a note that has no room changes nothing");
        b.rows(ONE, "addNote(0, 9, 11, 0) addNote(0, 8, 10, 0)" + noRoom(0) + at(1, 0, 0, 1),
                "addNote(0, 9, 6, 1) addNote(0, 8, 5, 1) addNote(0, 7, 6, 1) addNote(0, 6, 5, 1)" + noRoom(0) + at(1, 0, 0, 0) + noRoom(2)
                        + at(3, 1, 0, 1),
                "addNote(0, 9, 3, 0) addNote(0, 8, 8, 0) addNote(0, 7, 2, 1)" + at(0, 0, 0, 0) + noRoom(1) + at(2, 0, 3, 0),
                "addNote(0, 9, 10, 0) addNote(0, 8, 1, 0) addNote(0, 7, 1, 1)" + at(0, 0, 0, 1) + noRoom(1) + noRoom(2));
    }

    private static void indexTerms(Bench b) {
        b.term("Notes", "The index has each subject of a note that has room, with the lowest page on which such a note of this"
                + " subject begins");
        b.row(TWO + "index(0, 0)=NONE addNote(7, 0, 1, 0) addNote(7, 9, 5, 0) index(0, 0)=7 index(0, 1)=0 index(1, 0)=NONE" + at(0, 1, 0, 1));
        b.row(TWO + "addNote(99, 9, 20, 0) addNote(0, 0, 1, 0) index(0, 0)=99 index(0, 1)=0 index(1, 0)=NONE");
        b.row(ONE + "addNote(3, 0, 11, 0) index(0, 0)=NONE index(0, 1)=NONE");
        b.row(ONE + "addNote(3, 9, 11, 0) addNote(3, 8, 5, 1) addNote(3, 0, 5, 0) index(0, 0)=3 index(0, 1)=0 index(1, 0)=NONE");
        b.row(ONE + "addNote(99, 9, 5, 0) addNote(0, 8, 5, 0) index(0, 0)=0 index(0, 1)=1 index(1, 0)=99 index(1, 1)=0 index(2, 0)=NONE");
    }

    private static void addNote(Bench b) {
        b.promise(14, "Adds a note");
        b.row("addNote(99, 9, 20, 1)=0 count(9)=1 note(0, 0)=99 note(0, 1)=9 note(0, 2)=20 note(0, 3)=1");
        b.promise(14, "This is an action");
        b.action("", "addNote(0, 0, 1, 0)");
        b.action("addNote(0, 0, 1, 0)", "addNote(0, 0, 1, 0)");
        b.promise(14, "subject: 0 to 99");
        b.range("", "addNote(#, 0, 1, 0)", 0, 99);
        b.promise(14, "urgency: 0 to 9");
        b.range("", "addNote(0, #, 1, 0)", 0, 9);
        b.promise(14, "lines: 1 to 20");
        b.range("", "addNote(0, 0, #, 0)", 1, 20);
        b.range("", "addNote(0, 0, #, 1)", 1, 20);
        b.promise(14, "whole: 1 if it is whole, 0 if not");
        b.range("", "addNote(0, 0, 1, #)", 0, 1);
        b.row("addNote(0, 0, 1, 0) note(0, 3)=0 addNote(0, 0, 1, 1) note(1, 3)=1");
        b.promise(14, "Returns its number");
        StringBuilder row = new StringBuilder();
        for (int note = 0; note < 12; note++) {
            row.append("addNote(" + (50 - note) + ", 0, 1, 0)=" + note + " ");
        }
        b.row(row.toString());
        b.row("addNote(0, 0, 1, 0)=0 removeNote(0) addNote(0, 0, 1, 0)=0");
        b.promise(14, "INVALID_ARGUMENT if an argument is out of range");
        b.rows(FULL, "addNote(100, 0, 1, 0)=INVALID", "addNote(-1, 0, 1, 0)=INVALID", "addNote(0, 10, 1, 0)=INVALID", "addNote(0, -1, 1, 0)=INVALID",
                "addNote(0, 0, 0, 0)=INVALID", "addNote(0, 0, 21, 0)=INVALID", "addNote(0, 0, 1, 2)=INVALID", "addNote(0, 0, 1, -1)=INVALID");
        b.promise(14, "CAPACITY_EXCEEDED if there are 12");
        b.row(FULL + "addNote(0, 0, 1, 0)=FULL addNote(99, 9, 20, 1)=FULL removeNote(11)=11 addNote(99, 9, 20, 1)=11 addNote(0, 0, 1, 0)=FULL");
    }

    private static void removeNote(Bench b) {
        b.promise(15, "Removes a note");
        b.row(ONE + "addNote(1, 0, 1, 0) addNote(2, 0, 1, 0) removeNote(0) note(0, 0)=2 index(0, 0)=2 index(1, 0)=NONE");
        b.promise(15, "This is an action");
        b.action("addNote(1, 2, 3, 1)", "removeNote(0)");
        b.action(FULL, "removeNote(11)");
        b.promise(15, "note: a note");
        b.range("addNote(0, 0, 1, 0)", "removeNote(#)", 0, 0);
        b.range(FULL, "removeNote(#)", 0, 11);
        b.promise(15, "Returns the number of notes that are left");
        b.row("3*addNote(0, 0, 1, 0) removeNote(2)=2 removeNote(0)=1 removeNote(0)=0");
        b.row(FULL + "removeNote(0)=11 removeNote(10)=10");
        b.promise(15, "INVALID_ARGUMENT if there is no such note");
        b.rows("", "removeNote(0)=INVALID", "removeNote(-1)=INVALID",
                "addNote(0, 0, 1, 0) removeNote(1)=INVALID removeNote(0)=0 removeNote(0)=INVALID",
                FULL + "removeNote(12)=INVALID removeNote(11)=11 removeNote(11)=INVALID");
    }

    private static void setLines(Bench b) {
        b.promise(16, "Sets the lines of a page");
        b.row(ONE + "setLines(1) opening(0, 2)=1 setLines(9) opening(0, 2)=9");
        b.promise(16, "This is an action");
        b.action("", "setLines(9)");
        b.action("", "setLines(5)");
        b.promise(16, "lines: 1 to 9");
        b.range("", "setLines(#)", 1, 9);
        b.promise(16, "Returns the previous number");
        b.row("setLines(1)=5 setLines(9)=1 setLines(9)=9");
        b.promise(16, "INVALID_ARGUMENT if lines is out of range");
        b.row(FULL + "setLines(0)=INVALID setLines(10)=INVALID count(13)=5");
    }

    private static void note(Bench b) {
        b.promise(33, "Tells about a note");
        b.looks(TWO + "addNote(1, 2, 6, 1)", "note(0, 0)=1", "note(0, 4)=1", "note(0, 5)=0", "note(0, 6)=2");
        b.promise(33, "note: a note");
        b.range("addNote(0, 0, 1, 0)", "note(#, 0)", 0, 0);
        b.range(ONE + FULL, "note(#, 4)", 0, 11);
        b.promise(33, "what: 0 its subject, 1 its urgency, 2 its lines, 3 1 if it is whole and 0 if not");
        b.range("addNote(0, 0, 1, 0)", "note(0, #)", 0, 6);
        b.rows("", "addNote(0, 0, 1, 0) note(0, 0)=0 note(0, 1)=0 note(0, 2)=1 note(0, 3)=0",
                "addNote(99, 9, 20, 1) note(0, 0)=99 note(0, 1)=9 note(0, 2)=20 note(0, 3)=1");
        b.promise(33, "4 the page on which it begins, 5 the line on this page (from 0) with which it begins, 6 the page on which it ends");
        b.row(ONE + "setLines(9) addNote(0, 9, 8, 0) addNote(0, 8, 1, 0) addNote(0, 7, 9, 0)" + at(0, 0, 0, 0) + at(1, 0, 8, 0) + at(2, 1, 0, 1));
        b.row("setSheet(4, 4) fold(1) fold(1) fold(3) fold(3) addNote(0, 9, 5, 0) addNote(0, 8, 5, 1)" + at(1, 31, 0, 31) + " undo()"
                + " addNote(0, 0, 1, 0)" + at(1, 31, 0, 31));
        b.promise(33, "(4 to 6: NONE if it has no room, or the sheet is no booklet)");
        b.row(ONE + "addNote(0, 0, 11, 0)" + noRoom(0) + " note(0, 2)=11");
        b.row("addNote(0, 0, 1, 0)" + noRoom(0) + " fold(1) fold(1)" + noRoom(0) + " fold(3)" + at(0, 0, 0, 0) + " unfold()" + noRoom(0));
        b.promise(33, "INVALID_ARGUMENT if there is no such note or what is out of range");
        b.row("note(0, 0)=INVALID note(0, 4)=INVALID note(-1, 4)=INVALID note(0, 7)=INVALID note(MAX, MAX)=INVALID note(MIN, MIN)=INVALID");
        b.row(ONE + "addNote(0, 0, 11, 0) note(0, 7)=INVALID note(0, -1)=INVALID note(1, 0)=INVALID note(1, 4)=INVALID note(1, 7)=INVALID");
    }

    private static void index(Bench b) {
        String twelve = "";
        for (int i = 0; i < 12; i++) {
            twelve += "addNote(" + (99 - 9 * i) + ", 0, 1, 0) ";
        }
        b.promise(34, "Tells about the index");
        b.looks(TWO + "addNote(1, 2, 6, 1)", "index(0, 0)=1", "index(0, 1)=1", "index(1, 0)=NONE");
        b.promise(34, "place: 0 or more, a place in the index by ascending subjects, from 0");
        b.row(ONE + "setLines(9) " + twelve + "index(0, 0)=0 index(0, 1)=0 index(8, 0)=72 index(8, 1)=0 index(9, 0)=81 index(9, 1)=1"
                + " index(11, 0)=99 index(11, 1)=1 index(12, 0)=NONE index(12, 1)=NONE");
        b.rows(ONE, "index(0, 0)=NONE index(1, 0)=NONE index(MAX, 1)=NONE index(-1, 0)=INVALID index(MIN, 0)=INVALID index(NONE, 0)=INVALID");
        b.promise(34, "what: 0 for the subject, 1 for its page");
        b.range(ONE + "addNote(0, 0, 1, 0)", "index(0, #)", 0, 1);
        b.row(ONE + "addNote(50, 9, 5, 0) addNote(49, 8, 1, 0) index(0, 0)=49 index(0, 1)=1 index(1, 0)=50 index(1, 1)=0");
        b.promise(34, "ILLEGAL_STATE if the sheet is no booklet");
        b.rows("addNote(1, 1, 1, 1)", "index(0, 0)=ILLEGAL", "index(0, 1)=ILLEGAL", "index(5, 0)=ILLEGAL",
                "index(-1, 0)=ILLEGAL", "index(0, 2)=ILLEGAL", "index(-1, -1)=ILLEGAL",
                "setSheet(4, 4) fold(1) fold(1) fold(3) index(0, 0)=ILLEGAL fold(3) index(0, 0)=1");
        b.promise(34, "INVALID_ARGUMENT if an argument is out of range");
        b.row(ONE + "index(-1, 0)=INVALID index(0, 2)=INVALID index(0, -1)=INVALID index(5, 2)=INVALID index(-1, 2)=INVALID index(MAX, MAX)=INVALID");
        b.promise(34, "NONE if there are not so many subjects");
        b.row(ONE + "addNote(5, 0, 1, 0) addNote(5, 0, 1, 0) index(0, 0)=5 index(1, 0)=NONE index(1, 1)=NONE");
    }
}
