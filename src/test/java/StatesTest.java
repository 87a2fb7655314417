/** Promises 17 to 22: snapshots, undo, the text and its programs. */
public final class StatesTest {
    private static final Due DUE = new Due();
    private static final int INVALID = -1;
    private static final int ILLEGAL = -2;
    private static final int FULL = -3;
    private static final int NONE = -9;
    private static final int MIN = Integer.MIN_VALUE;
    private static final int MAX = Integer.MAX_VALUE;

    public static void main(String[] args) {
        take();
        restore();
        undo();
        actions();
        failures();
        append();
        clearText();
        run();
        runCommands();
        runFailures();
        runStates();
        DUE.end();
    }

    private static void take() {
        DUE.of("promise 17");
        CribBooklet x = new CribBooklet();
        DUE.is("take(2)", x.take(2), INVALID);
        DUE.is("take(-1)", x.take(-1), INVALID);
        DUE.is("take(MIN)", x.take(MIN), INVALID);
        DUE.is("take(0)", x.take(0), 0);
        x.fold(1);
        x.fold(3);
        DUE.is("take(1)", x.take(1), 2);
        DUE.is("snapshots", x.count(10), 2);
        DUE.is("take(0) again", x.take(0), 2);
        DUE.is("snapshots then", x.count(10), 2);
        x.undo();
        x.restore(0);
        DUE.is("folds of the snapshot before", x.count(2), 0);
    }

    private static void restore() {
        DUE.of("promise 18");
        CribBooklet x = new CribBooklet();
        DUE.is("restore(2)", x.restore(2), INVALID);
        DUE.is("restore(-1)", x.restore(-1), INVALID);
        DUE.is("restore(0)", x.restore(0), ILLEGAL);
        x.setSheet(1, 2);
        x.print(0, 1, 0, 17, 1);
        x.fold(1);
        x.setSpine(1);
        x.cut(3);
        x.staple(6);
        x.setLegs(9);
        x.see(2, 3, 0);
        x.addNote(8, 1, 6, 1);
        x.setLines(7);
        DUE.is("take(1)", x.take(1), 1);
        DUE.is("restore(0), the other slot", x.restore(0), ILLEGAL);
        x.append('a');
        x.setSheet(4, 1);
        x.forget();
        x.addNote(9, 1, 6, 1);
        x.removeNote(0);
        x.setLines(1);
        x.setLegs(1);
        x.setSpine(0);
        DUE.is("restore(1)", x.restore(1), 1);
        int[] counts = {1, 2, 1, 2, 1, 1, 8, 1, 1, 1, 1, 5, 1, 7, 9, 1};
        for (int what = 0; what < counts.length; what++) {
            DUE.is("count(" + what + ")", x.count(what), counts[what]);
        }
        DUE.is("what is printed", x.side(0, 1, 0, 0), 17);
        DUE.is("how it is printed", x.side(0, 1, 0, 1), 1);
        DUE.is("the note", x.note(0, 0), 8);
        DUE.is("the layers", x.layer(0, 0, 1), 0);
        DUE.is("the effort", x.effort(4), 1 + 1 + 2 + 3);
        DUE.is("unstaple(6)", x.unstaple(6), 0);
        DUE.is("restore(1), which stays", x.restore(1), 1);
        DUE.is("staples again", x.count(7), 1);
    }

    private static void undo() {
        DUE.of("promise 19");
        CribBooklet x = new CribBooklet();
        DUE.is("undo() of nothing", x.undo(), ILLEGAL);
        for (int lines = 1; lines <= 7; lines++) {
            x.setLines(lines);
        }
        DUE.is("states", x.count(11), 5);
        for (int left = 4; left >= 0; left--) {
            DUE.is("undo()", x.undo(), left);
            DUE.is("lines", x.count(13), left + 2);
        }
        DUE.is("undo() of no more", x.undo(), ILLEGAL);
        x.take(0);
        x.setLines(9);
        x.take(0);
        x.undo();
        x.restore(0);
        DUE.is("lines of the snapshot before", x.count(13), 2);
        x.undo();
        x.undo();
        x.undo();
        DUE.is("snapshots at first", x.count(10), 0);
        x.append('a');
        x.setLegs(3);
        x.append('b');
        DUE.is("undo() with a text", x.undo(), 0);
        DUE.is("the text stays", x.count(12), 2);
    }

    /** Each action that succeeds records a state, also if nothing changes by it. */
    private static void actions() {
        DUE.of("Undo");
        CribBooklet x = new CribBooklet();
        x.setSheet(1, 1);
        int[] results = {x.setSpine(0), x.setLegs(4), x.forget(), x.setLines(5)};
        for (int result : results) {
            DUE.holds("it succeeds", result >= 0);
        }
        DUE.is("states of five actions", x.count(11), 5);
        DUE.is("undo()", x.undo(), 4);
        x.see(0, 0, 0);
        DUE.is("see records", x.undo(), 4);
        x.print(0, 0, 0, -1, 1);
        DUE.is("print of nothing records", x.undo(), 4);
        x.printAll(0);
        DUE.is("printAll records", x.undo(), 4);
        x.take(0);
        DUE.is("take records", x.undo(), 4);
        x.cut(1);
        DUE.is("cut records", x.undo(), 4);
        x.staple(1);
        DUE.is("staple records", x.undo(), 4);
        x.addNote(1, 1, 1, 1);
        DUE.is("addNote records", x.undo(), 4);
        x.append('l');
        x.clearText();
        x.count(0);
        x.best(0);
        x.fitting(0);
        DUE.is("these record nothing", x.undo(), 3);
    }

    /** A call that fails changes nothing and records nothing. */
    private static void failures() {
        DUE.of("Errors");
        CribBooklet x = new CribBooklet();
        x.setSheet(3, 1);
        x.fold(0);
        x.unfold();
        x.setSpine(2);
        x.print(0, 0, 0, 32, 0);
        x.printAll(1);
        x.cut(0);
        x.staple(0);
        x.unstaple(0);
        x.setLegs(0);
        x.see(16, 0, 0);
        x.addNote(0, 0, 0, 0);
        x.removeNote(0);
        x.setLines(0);
        x.take(2);
        x.restore(0);
        x.undo();
        int[] counts = {2, 4, 0, 1, 0, 0, 0, 0, 0, 0, 0, 0, 0, 5, 4, 0};
        for (int what = 0; what < counts.length; what++) {
            DUE.is("count(" + what + ")", x.count(what), counts[what]);
        }
        DUE.is("effort(4)", x.effort(4), 0);
    }

    private static void append() {
        DUE.of("promise 20");
        CribBooklet x = new CribBooklet();
        for (int character : new int[] {0, 256, -1, MIN, MAX}) {
            DUE.is("append(" + character + ")", x.append(character), INVALID);
        }
        DUE.is("append(1)", x.append(1), 1);
        DUE.is("append(255)", x.append(255), 2);
        for (int i = 3; i <= 120; i++) {
            DUE.is("append(32)", x.append(32), i);
        }
        DUE.is("append(32) to a full text", x.append(32), FULL);
        DUE.is("append(0) to a full text", x.append(0), INVALID);
        DUE.is("states", x.count(11), 0);
    }

    private static void clearText() {
        DUE.of("promise 21");
        CribBooklet x = new CribBooklet();
        DUE.is("clearText() of nothing", x.clearText(), 0);
        x.append(';');
        x.append(';');
        DUE.is("clearText()", x.clearText(), 2);
        DUE.is("length", x.count(12), 0);
        DUE.is("append then", x.append('a'), 1);
        DUE.is("states", x.count(11), 0);
    }

    private static CribBooklet ran(String text, int due) {
        CribBooklet x = new CribBooklet();
        run(x, text, due);
        return x;
    }

    private static void run(CribBooklet x, String text, int due) {
        for (char character : text.toCharArray()) {
            x.append(character);
        }
        DUE.is("run() of «" + text + "»", x.run(), due);
        DUE.is("the text behind «" + text + "»", x.count(12), due < 0 ? text.length() : 0);
    }

    private static void run() {
        DUE.of("promise 22");
        ran("", 0);
        CribBooklet x = ran("   ", 0);
        DUE.is("states of no commands", x.count(11), 1);
        x = ran("sheet 1 2;fold 1;unfold;spine top;print 2;note 5 6 7;note 8 9 10 whole;lines 3;", 8);
        int[] counts = {1, 2, 0, 1, 0, 0, 0, 0, 0, 2, 0, 1, 0, 3, 4, 1};
        for (int what = 0; what < counts.length; what++) {
            DUE.is("count(" + what + ")", x.count(what), counts[what]);
        }
        DUE.is("readsBy(2)", x.readsBy(2), 4);
        int[][] notes = {{5, 6, 7, 0}, {8, 9, 10, 1}};
        for (int note = 0; note < 2; note++) {
            for (int what = 0; what < 4; what++) {
                DUE.is("note(" + note + ", " + what + ")", x.note(note, what), notes[note][what]);
            }
        }
        DUE.is("effort", x.effort(4), 1 + 1 + 4);
        DUE.is("undo()", x.undo(), 0);
        DUE.is("columns again", x.count(1), 4);
        DUE.is("the text stays empty", x.count(12), 0);
    }

    private static void runCommands() {
        DUE.of("promise 22, commands");
        CribBooklet x = ran("  sheet4 4;fold 1 2 3 4;cut left;cut right;cut top;cut bottom;staple 9;staple0 ;", 8);
        DUE.is("folds", x.count(4), 1234);
        DUE.is("cuts", x.count(6), 15);
        DUE.is("staples", x.count(7), 2);
        DUE.is("staple(9)", x.staple(9), ILLEGAL);
        DUE.is("cut effort", x.effort(2), 64);
        x = ran("spine top;spine left;", 2);
        DUE.is("spine", x.count(15), 0);
        DUE.is("states: one action", x.count(11), 1);
        x = ran("sheet 1 4;fold 1;cut right;", -1000 - 17);
        x = ran("sheet 2 1;fold 4;cut bottom;", 3);
        DUE.is("cuts", x.count(6), 8);
        x = ran("sheet 1 1;print 0;cut top;", 3);
        DUE.is("side(0, 0, 1, 0)", x.side(0, 0, 1, 0), 1);
        DUE.is("cuts", x.count(6), 4);
        ran("sheet 4 4 ; print 4321 ;", 2);
        x = ran("note0 0 1whole;note 0 0 1;", 2);
        DUE.is("whole of the first", x.note(0, 3), 1);
        DUE.is("whole of the second", x.note(1, 3), 0);
        ran("note 99 9 20 ;", 1);
        ran("lines 9 ; lines9;", 2);
        ran("fold 1 1 3;unfold;unfold ; unfold;", 4);
    }

    private static void runFailures() {
        DUE.of("promise 22, failures");
        // The sign @ marks the place of the failure; it is no part of the text.
        String[] texts = {
            "@;", "sheet@;", "@sheet 0 1;", "sheet 2@;", "sheet 2 2 @2;", "sheet 2 2@", "sheet 2 2  @",
            "sheet 22@;", "sheet @02 2;", "sheet @00 2;", "sheet @12345 2;", "@sheet 1234 2;", "@sheet 3 2;",
            "sheet 2 @two;", "@sheets 2 2;", "@Sheet 2 2;", "@sheetx;", "sheet 2@,2;", "sheet@\t2 2;",
            "fold@;", "fold @x;", "fold 1 3 1 3 @1;", "@fold 1 3 1 3;", "@fold 0;", "@fold 1 1 1;",
            "fold 1;@fold 1 1 ;", "unfold @1;", "@unfold;", "fold 1;unfold;@unfold;", "unfold@", "unfold  @",
            "spine @right;", "spine @bottom;", "spine@;", "spine @1;", "spine @lefty;", "spine left@",
            "spine left @left;", "print@;", "@print 1;", "print 113 @1;", "print @x;", "@print 0;",
            "@print 1133;", "print @11331;", "cut @middle;", "cut@;", "@cut left;",
            "sheet 1 1;cut left;@cut left;", "cut @0;", "staple@;", "@staple 1;", "sheet 1 1;@staple 10;",
            "sheet 1 1;staple 1;@staple 1;", "staple @left;",
            "sheet 1 1;staple 1;staple 2;staple 3;@staple 4;", "sheet 1 1;staple 1;@spine top;", "note@;",
            "note 1@;", "note 1 1@;", "note 1 1 @whole;", "note 1 1 1 @1;", "note 1 1 1 @hole;",
            "note 1 1 1 whole @whole;", "note 1 1 1 whole@", "@note 100 1 1;", "@note 1 10 1;",
            "@note 1 1 0;", "@note 1 1 21 whole;", "note 1 1 1@.", "lines@;", "@lines 0;", "@lines 10;",
            "lines 5 @5;", "lines 5;@;", "lines 5; @;lines 5;", "lines 5; @line 5;", "lines @\u00ff5;",
            "@5 lines;", "@\u00ffsheet 1 1;", "sheet 1 1;@;", "@left;", "@whole;", "@bold 1;", "@foldz 1;",
            "@zunfold;", "@afold 1;", "cut @deft;", "fold 1@:;", "fold @/1;", "fold@`1;", "fold@{1;",
            "@fold 5 ; zzz", "fold 5 @zzz;", "sheet 1 1;@x;cut left;", "lines 1;lines 2;note 1 1@"
        };
        CribBooklet x;
        for (String text : texts) {
            String bare = text.replace("@", "");
            x = ran(bare, -1000 - text.indexOf('@'));
            DUE.is("states behind «" + bare + "»", x.count(11), 0);
            DUE.is("rows behind it", x.count(0), 2);
            DUE.is("columns behind it", x.count(1), 4);
            DUE.is("lines behind it", x.count(13), 5);
            DUE.is("notes behind it", x.count(9), 0);
            DUE.is("folds behind it", x.count(2), 0);
            DUE.is("effort behind it", x.effort(4), 0);
        }
        ran("@;", -1000);
        x = ran("lines 55        ;", -1000);
        x.clearText();
        run(x, "lines 5", -1007);
        x.clearText();
        run(x, "lines 5  ", -1009);
    }

    private static void runStates() {
        DUE.of("promise 22, states");
        CribBooklet x = new CribBooklet();
        x.setLines(7);
        run(x, "lines 8;lines 10;", -1008);
        DUE.is("lines", x.count(13), 7);
        DUE.is("states", x.count(11), 1);
        DUE.is("run() again", x.run(), -1008);
        DUE.is("clearText()", x.clearText(), 17);
        run(x, "lines 8;lines 9;", 2);
        DUE.is("states then", x.count(11), 2);
        DUE.is("undo()", x.undo(), 1);
        DUE.is("lines then", x.count(13), 7);
        x.take(0);
        x.fold(1);
        x.setLegs(8);
        x.setSpine(1);
        run(x, "unfold;sheet 1 1;staple 1;staple 1;", -1026);
        DUE.is("folds", x.count(4), 1);
        DUE.is("snapshots", x.count(10), 1);
        DUE.is("states", x.count(11), 5);
        DUE.is("undo() behind a failure", x.undo(), 4);
        DUE.is("spine", x.count(15), 0);
        x = new CribBooklet();
        for (int i = 0; i < 12; i++) {
            run(x, "lines 1; lines 2;", 2);
        }
        DUE.is("states of many programs", x.count(11), 5);
        DUE.is("undo() of a program", x.undo(), 4);
        StringBuilder longest = new StringBuilder();
        for (int i = 0; i < 17; i++) {
            longest.append("unfold;");
        }
        run(x, longest.toString(), -1000);
        DUE.is("append(32)", x.append(' '), 120);
        DUE.is("run() of a full text", x.run(), -1000);
        DUE.is("NONE", CribBooklet.NONE, NONE);
    }
}
