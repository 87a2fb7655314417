/** Promises 14 to 16, 33 and 34: notes, how they are laid out, and their index. */
public final class NotesTest {
    private static final Due DUE = new Due();
    private static final int INVALID = -1;
    private static final int ILLEGAL = -2;
    private static final int FULL = -3;
    private static final int NONE = -9;
    private static final int MIN = Integer.MIN_VALUE;
    private static final int MAX = Integer.MAX_VALUE;

    public static void main(String[] args) {
        addNote();
        removeNote();
        setLines();
        note();
        order();
        wholeNotes();
        index();
        DUE.end();
    }

    /** Eight pages of which 1 and 2 are hidden: openings of 5, 0, 10, 10 and 5 lines. */
    private static CribBooklet strip() {
        CribBooklet x = new CribBooklet();
        x.setSheet(1, 4);
        x.fold(1);
        x.fold(1);
        return x;
    }

    private static void addNote() {
        DUE.of("promise 14");
        CribBooklet x = new CribBooklet();
        int[][] wrong = {{100, 0, 1, 0}, {-1, 0, 1, 0}, {0, 10, 1, 0}, {0, -1, 1, 0}, {0, 0, 21, 0}, {0, 0, 0, 0},
            {0, 0, 1, 2}, {0, 0, 1, -1}, {MAX, 0, 1, 0}, {0, 0, MIN, 0}};
        for (int[] a : wrong) {
            DUE.is("addNote of " + java.util.Arrays.toString(a), x.addNote(a[0], a[1], a[2], a[3]), INVALID);
        }
        DUE.is("addNote(99, 9, 20, 1)", x.addNote(99, 9, 20, 1), 0);
        DUE.is("addNote(0, 0, 1, 0)", x.addNote(0, 0, 1, 0), 1);
        for (int i = 2; i < 12; i++) {
            DUE.is("addNote, the same again", x.addNote(0, 0, 1, 0), i);
        }
        DUE.is("addNote, a thirteenth", x.addNote(0, 0, 1, 0), FULL);
        DUE.is("addNote wrongly, a thirteenth", x.addNote(0, 0, 0, 0), INVALID);
        DUE.is("notes", x.count(9), 12);
        DUE.is("removeNote(0)", x.removeNote(0), 11);
        DUE.is("addNote then", x.addNote(7, 0, 1, 0), 11);
    }

    private static void removeNote() {
        DUE.of("promise 15");
        CribBooklet x = new CribBooklet();
        DUE.is("removeNote(0) of none", x.removeNote(0), INVALID);
        for (int i = 0; i < 4; i++) {
            x.addNote(10 + i, i, 1 + i, i % 2);
        }
        DUE.is("removeNote(4)", x.removeNote(4), INVALID);
        DUE.is("removeNote(-1)", x.removeNote(-1), INVALID);
        DUE.is("removeNote(MAX)", x.removeNote(MAX), INVALID);
        DUE.is("removeNote(1)", x.removeNote(1), 3);
        int[] left = {0, 2, 3};
        for (int i = 0; i < 3; i++) {
            DUE.is("subject of " + i, x.note(i, 0), 10 + left[i]);
            DUE.is("urgency of " + i, x.note(i, 1), left[i]);
            DUE.is("lines of " + i, x.note(i, 2), 1 + left[i]);
            DUE.is("whole of " + i, x.note(i, 3), left[i] % 2);
        }
        DUE.is("note(3, 0)", x.note(3, 0), INVALID);
        DUE.is("removeNote(2), the last", x.removeNote(2), 2);
        DUE.is("note(1, 0)", x.note(1, 0), 12);
    }

    private static void setLines() {
        DUE.of("promise 16");
        CribBooklet x = strip();
        DUE.is("setLines(0)", x.setLines(0), INVALID);
        DUE.is("setLines(10)", x.setLines(10), INVALID);
        DUE.is("setLines(MIN)", x.setLines(MIN), INVALID);
        DUE.is("setLines(9)", x.setLines(9), 5);
        DUE.is("setLines(1)", x.setLines(1), 9);
        DUE.is("lines", x.count(13), 1);
        x.addNote(1, 1, 6, 0);
        DUE.is("its last page", x.note(0, 6), 7);
        x.setLines(9);
        DUE.is("its last page then", x.note(0, 6), 0);
    }

    private static void note() {
        DUE.of("promise 33");
        CribBooklet x = new CribBooklet();
        DUE.is("note(0, 4) of none", x.note(0, 4), INVALID);
        x.addNote(42, 7, 3, 1);
        int[] due = {42, 7, 3, 1, NONE, NONE, NONE};
        for (int what = 0; what < 7; what++) {
            DUE.is("note(0, " + what + ") without a booklet", x.note(0, what), due[what]);
        }
        int[][] wrong = {{1, 0}, {-1, 0}, {0, 7}, {0, -1}, {MAX, 0}, {0, MIN}};
        for (int[] a : wrong) {
            DUE.is("note(" + a[0] + ", " + a[1] + ")", x.note(a[0], a[1]), INVALID);
        }
    }

    private static void noteIs(CribBooklet x, int note, int page, int line, int last) {
        DUE.is("note(" + note + ", 4)", x.note(note, 4), page);
        DUE.is("note(" + note + ", 5)", x.note(note, 5), line);
        DUE.is("note(" + note + ", 6)", x.note(note, 6), last);
    }

    private static void order() {
        DUE.of("promise 33, the order");
        CribBooklet x = strip();
        x.addNote(5, 1, 1, 0);
        x.addNote(4, 1, 2, 0);
        x.addNote(5, 1, 4, 0);
        x.addNote(9, 2, 3, 0);
        x.addNote(0, 0, 15, 0);
        x.addNote(0, 0, 5, 0);
        x.addNote(1, 0, 1, 0);
        // 3 (lines 0 to 2), 1 (3 and 4), 0 (5), 2 (6 to 9), 4 (10 to 24), 5 (25 to 29), 6 has no room.
        noteIs(x, 3, 0, 0, 0);
        noteIs(x, 1, 0, 3, 0);
        noteIs(x, 0, 3, 0, 3);
        noteIs(x, 2, 3, 1, 3);
        noteIs(x, 4, 4, 0, 6);
        noteIs(x, 5, 7, 0, 7);
        noteIs(x, 6, NONE, NONE, NONE);
        x.cut(1);
        // Pages 1 and 2 are there now.
        noteIs(x, 0, 1, 0, 1);
        noteIs(x, 4, 2, 0, 4);
        noteIs(x, 5, 5, 0, 5);
        noteIs(x, 6, 6, 0, 6);
    }

    private static void wholeNotes() {
        DUE.of("promise 33, whole notes");
        CribBooklet x = strip();
        int[][] notes = {{1, 9, 3, 0}, {1, 8, 4, 1}, {1, 7, 10, 1}, {1, 6, 11, 1}, {1, 5, 6, 0}, {1, 4, 5, 0}, {1, 3, 1, 0},
            {1, 2, 1, 1}};
        for (int[] n : notes) {
            x.addNote(n[0], n[1], n[2], n[3]);
        }
        noteIs(x, 0, 0, 0, 0);
        noteIs(x, 1, 3, 0, 3);
        noteIs(x, 2, 5, 0, 6);
        noteIs(x, 3, NONE, NONE, NONE);
        noteIs(x, 4, NONE, NONE, NONE);
        noteIs(x, 5, 7, 0, 7);
        noteIs(x, 6, NONE, NONE, NONE);
        noteIs(x, 7, NONE, NONE, NONE);
        x = strip();
        x.addNote(1, 9, 8, 0);
        x.addNote(1, 8, 7, 1);
        x.addNote(1, 7, 10, 1);
        x.addNote(1, 6, 6, 1);
        x.addNote(1, 5, 5, 1);
        noteIs(x, 0, 0, 0, 3);
        noteIs(x, 1, 3, 3, 4);
        noteIs(x, 2, 5, 0, 6);
        noteIs(x, 3, NONE, NONE, NONE);
        noteIs(x, 4, 7, 0, 7);
        x.setLines(4);
        // Openings of 4, 0, 8, 8 and 4 lines.
        noteIs(x, 0, 0, 0, 3);
        noteIs(x, 1, 5, 0, 6);
        noteIs(x, 2, NONE, NONE, NONE);
        noteIs(x, 3, NONE, NONE, NONE);
        noteIs(x, 4, NONE, NONE, NONE);
        x = new CribBooklet();
        x.setSheet(1, 1);
        x.addNote(1, 1, 6, 1);
        x.addNote(1, 0, 10, 0);
        noteIs(x, 0, NONE, NONE, NONE);
        noteIs(x, 1, 0, 0, 1);
        x.removeNote(1);
        for (int i = 1; i < 12; i++) {
            x.addNote(20 - i, 2, 1, 1);
        }
        // 11 (line 0), 10, 9, 8, 7 (line 4), 6 (page 1, line 0), 5, 4, 3, 2 (line 4); 1 has no room.
        noteIs(x, 11, 0, 0, 0);
        noteIs(x, 6, 1, 0, 1);
        noteIs(x, 2, 1, 4, 1);
        noteIs(x, 1, NONE, NONE, NONE);
    }

    private static void index() {
        DUE.of("promise 34");
        CribBooklet x = new CribBooklet();
        DUE.is("index(0, 0) of no booklet", x.index(0, 0), ILLEGAL);
        DUE.is("index(-1, 2) of no booklet", x.index(-1, 2), ILLEGAL);
        x = strip();
        DUE.is("index(0, 0) without notes", x.index(0, 0), NONE);
        x.addNote(7, 1, 5, 0);
        x.addNote(3, 0, 5, 0);
        x.addNote(99, 9, 4, 0);
        x.addNote(7, 5, 1, 0);
        x.addNote(1, 0, 11, 1);
        // 99 (lines 0 to 3), 7 (4, page 0), 7 (5 to 9, page 3), 3 (10 to 14, page 4); 1 has no room.
        int[][] due = {{3, 4}, {7, 0}, {99, 0}};
        for (int place = 0; place < 3; place++) {
            DUE.is("index(" + place + ", 0)", x.index(place, 0), due[place][0]);
            DUE.is("index(" + place + ", 1)", x.index(place, 1), due[place][1]);
        }
        x.addNote(0, 0, 1, 0);
        DUE.is("index(0, 0), subject 0", x.index(0, 0), 0);
        DUE.is("index(0, 1), subject 0", x.index(0, 1), 4);
        x.undo();
        DUE.is("index(3, 0)", x.index(3, 0), NONE);
        DUE.is("index(3, 1)", x.index(3, 1), NONE);
        DUE.is("index(MAX, 1)", x.index(MAX, 1), NONE);
        DUE.is("index(-1, 0)", x.index(-1, 0), INVALID);
        DUE.is("index(MIN, 0)", x.index(MIN, 0), INVALID);
        DUE.is("index(0, 2)", x.index(0, 2), INVALID);
        DUE.is("index(0, -1)", x.index(0, -1), INVALID);
        DUE.is("index(50, 5)", x.index(50, 5), INVALID);
    }
}
