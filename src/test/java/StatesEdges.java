/** The boundary cases of snapshots, undo and errors: promises 17 to 19 and their terms. */
final class StatesEdges {
    private static final String FULL_TEXT = "119*append(32) append(1) ";
    private static final String FULL_HISTORY = "setLines(1) setLegs(2) setSpine(1) addNote(7, 8, 9, 1) see(6, 5, 1) ";
    /** A sheet with all that can be, open, folded, a booklet that is held by nothing, and one that is cut and full. */
    private static final String[] RICH = {
        "printAll(311) print(0, 1, 1, 30, 1) setSpine(1) see(3, 3, 1) addNote(50, 3, 4, 1) take(0) setLines(3) 'lines 4;' ",
        "print(0, 0, 0, 5, 1) take(1) fold(3) fold(2) setLegs(9) addNote(1, 1, 1, 1) take(0) addNote(2, 2, 2, 0) 'fold 1' ",
        "setSheet(2, 2) printAll(13) take(0) fold(1) fold(3) see(0, 0, 0) addNote(1, 1, 6, 1) setSpine(1) 'x' ",
        "setSheet(1, 2) printAll(2) fold(2) take(1) cut(0) cut(1) staple(9) staple(0) staple(5) 8*see(0, 0, 0) 12*addNote(0, 0, 1, 0) "
                + FULL_TEXT
    };

    private static final String[] ACTIONS = {"setSheet(4, 2)", "fold(1)", "fold(4)", "unfold()", "setSpine(0)", "setSpine(1)",
        "print(0, 3, 1, 7, 1)", "print(0, 0, 0, -1, 0)", "printAll(124)", "cut(3)", "staple(4)", "unstaple(9)", "setLegs(16)",
        "see(1, 9, 1)", "forget()", "addNote(5, 9, 3, 1)", "removeNote(0)", "setLines(2)", "take(0)", "take(1)", "restore(0)",
        "restore(1)", "run()"};
    /** It changes all that a snapshot keeps. */
    private static final String CHANGES = "setSheet(1, 2) print(0, 1, 1, 5, 1) setSpine(0) fold(2) cut(2) staple(5) setLegs(11)"
            + " see(2, 2, 1) removeNote(0) addNote(99, 0, 1, 0) setLines(9)";

    private StatesEdges() {
    }

    static void tests(Bench b) {
        snapshotTerms(b);
        undoTerms(b);
        historyTerms(b);
        undoOfEach(b);
        errorTerms(b);
        firstOfErrors(b);
        noneIsNoError(b);
        constants(b);
        take(b);
        restore(b);
        undo(b);
    }

    private static void snapshotTerms(Bench b) {
        b.term("Snapshots", "There are two slots for snapshots, empty at first");
        b.row("count(10)=0 restore(0)=ILLEGAL restore(1)=ILLEGAL take(0) count(10)=1 restore(1)=ILLEGAL restore(0)=0 take(1) count(10)=2");
        b.row("take(1) count(10)=1 restore(0)=ILLEGAL restore(1)=0 take(2)=INVALID restore(2)=INVALID");
        b.term("Snapshots", "A snapshot keeps the sheet with all that is printed, its folds, the spine, cuts, staples, legs, sights,"
                + " notes, lines and effort");
        String[][] changes = {{"", "setSheet(1, 1)"}, {"setSheet(4, 4)", "setSheet(1, 1)"}, {"", "print(1, 3, 1, 31, 0)"},
            {"print(1, 3, 1, 31, 0)", "print(1, 3, 1, 31, 1)"}, {"setSheet(4, 4) print(3, 3, 1, 0, 1)", "print(3, 3, 1, -1, 0)"},
            {"", "fold(1)"}, {"fold(1)", "unfold() fold(2)"}, {"fold(4) fold(2)", "unfold() unfold()"}, {"", "setSpine(1)"},
            {"setSpine(1)", "setSpine(0)"}, {"setSheet(1, 1)", "cut(3)"}, {"setSheet(1, 1) cut(3)", "setSheet(1, 1)"},
            {"setSheet(1, 1)", "staple(9)"}, {"setSheet(1, 1) staple(9)", "unstaple(9)"}, {"setSheet(1, 1) staple(9)", "unstaple(9) staple(0)"},
            {"", "setLegs(16)"}, {"setLegs(16)", "setLegs(1)"}, {"", "see(15, 31, 1)"}, {"8*see(1, 1, 1)", "forget()"},
            {"printAll(113) see(0, 0, 0)", "forget() see(0, 0, 1)"}, {"printAll(113) see(0, 0, 0)", "forget() see(0, 1, 0)"},
            {"printAll(113) see(0, 0, 0)", "forget() see(1, 0, 0)"},
            {"addNote(1, 2, 3, 1)", "removeNote(0) addNote(1, 2, 3, 0)"}, {"", "addNote(99, 9, 20, 1)"},
            {"11*addNote(0, 0, 1, 0) addNote(99, 9, 20, 1)", "removeNote(0)"}, {"", "setLines(9)"}, {"setLines(9)", "setLines(1)"},
            {"", "fold(1) unfold()"}, {"", "print(0, 0, 0, 1, 0) print(0, 0, 0, -1, 0)"}, {"setSheet(1, 1)", "staple(0) unstaple(0)"}};
        for (String[] change : changes) {
            b.restored(change[0], change[1]);
        }
        for (String rich : RICH) {
            b.restored(rich, CHANGES);
        }
        b.restored("addNote(1, 1, 1, 1) " + CHANGES,
                "setSheet(4, 4) printAll(1313) fold(1) setSpine(1) setLegs(1) see(0, 0, 0) addNote(0, 0, 1, 1) setLines(1)");
        b.term("Snapshots", "To restore it makes all this as it was; nothing else changes");
        b.row("setLines(1) take(0) setLines(9) take(1) 'abc' restore(0)=0 count(13)=1 count(12)=3 count(10)=2 count(11)=5 restore(1) count(13)=9"
                + " restore(0) count(13)=1 clearText()=3");
        b.row("take(0) setLines(9) restore(0) count(11)=3 undo()=2 count(13)=9 undo()=1 count(13)=5 undo()=0 count(10)=0");
        b.row("setLines(1) take(0) setLines(2) take(1) restore(0) setLines(3) restore(1) count(13)=2");
    }

    private static void undoTerms(Bench b) {
        b.term("Undo", "A history of at most 5 states is kept");
        b.row("4*forget() count(11)=4 forget() count(11)=5 forget() count(11)=5 undo()=4 undo()=3 undo()=2 undo()=1 undo()=0 undo()=ILLEGAL");
        b.term("Undo", "a state is everything but the text and the history (the snapshots belong to it)");
        b.row("take(0) count(10)=1 undo()=0 count(10)=0 restore(0)=ILLEGAL");
        b.row("take(0) setLines(9) take(0) undo() restore(0) count(13)=5");
        b.row("take(1) setLines(9) take(1) setLines(1) undo() undo() restore(1) count(13)=5");
        b.row("'abc' setLines(9) 'd' undo()=0 count(13)=5 count(12)=4 clearText()=4");
        b.row("setLines(9) 'abc' clearText() undo()=0 count(12)=0");
        b.row("'lines 7;' setLines(9) undo()=0 run()=1 count(13)=7");
        b.term("Undo", "Every successful call of a method that is called an action records the state before it"
                + " (also if nothing changes by it)");
        String[] nothing = {"setSheet(2, 4)", "setSpine(0)", "print(0, 0, 0, -1, 0)", "setLegs(4)", "forget()", "setLines(5)", "run()",
            "take(0)", "fold(1)", "printAll(113)", "addNote(0, 0, 1, 0)", "see(0, 0, 0)"};
        for (String call : nothing) {
            b.row(call + " count(11)=1 undo()=0");
        }
        b.rows("take(0)", "take(0) count(11)=2 undo()=1", "restore(0) count(11)=2 undo()=1");
        b.row("printAll(113) printAll(113)=0 count(11)=2 fold(1) unfold() count(11)=4 undo()=3 count(2)=1");
        b.row("setSheet(1, 1) cut(3)=0 count(11)=2 staple(0) count(11)=3 unstaple(0) count(11)=4 undo()=3 count(7)=1 undo()=2 undo()=1 count(6)=0");
        b.row("addNote(0, 0, 1, 0) removeNote(0) count(11)=2 undo()=1 count(9)=1");
        b.row("append(1) clearText() undo()=ILLEGAL count(0) side(0, 0, 0, 0) layer(0, 0, 0) effort(4) fitting(0) readsBy(113) cutsFor(113) best(0)"
                + " count(11)=0 'x' run()=-1000 count(11)=0");
    }

    private static void historyTerms(Bench b) {
        b.term("Undo", "when a sixth one is recorded, the oldest one is dropped");
        b.row("setLines(1) setLines(2) setLines(3) setLines(4) setLines(6) setLines(7) undo()=4 count(13)=6 undo()=3 count(13)=4"
                + " undo()=2 count(13)=3 undo()=1 count(13)=2 undo()=0 count(13)=1 undo()=ILLEGAL count(13)=1");
        b.row("11*setLegs(1) setLegs(2) setLegs(3) setLegs(4) setLegs(5) setLegs(6) undo()=4 undo()=3 undo()=2 undo()=1 count(14)=2 undo()=0"
                + " count(14)=1 setLegs(9) count(11)=1 undo()=0 count(14)=1");
        b.row(FULL_HISTORY + "fold(1) undo()=4 undo()=3 undo()=2 undo()=1 undo()=0 count(13)=1 count(14)=4 undo()=ILLEGAL");
        b.row(FULL_HISTORY + "fold(0)=INVALID setLines(0)=INVALID unfold()=ILLEGAL undo()=4 undo()=3 undo()=2 undo()=1 undo()=0 count(13)=5");
        b.term("Undo", "undo() removes the latest state from the history and restores it");
        b.row("setLines(1) fold(1) undo()=1 count(2)=0 count(13)=1 undo()=0 count(13)=5 setLines(9) undo()=0 count(13)=5");
        for (String action : new String[] {"setSheet(4, 4)", "setSpine(1)", "setLegs(16)", "see(15, 31, 1)", "addNote(99, 9, 20, 1)", "setLines(9)",
            "take(1)", "print(1, 3, 1, 31, 1)", "printAll(422)", "fold(4)"}) {
            b.action("", action);
            b.action(FULL_HISTORY, action);
        }
        b.action(RICH[3], "setSheet(4, 4)");
        b.action(RICH[3] + "setLegs(1)", "restore(1)");
        b.action(RICH[0], "restore(0)");
    }

    /** Each action in each state, also where it is refused. */
    private static void undoOfEach(Bench b) {
        b.term("Undo", "removes the latest state from the history and restores it");
        for (String rich : RICH) {
            for (String action : ACTIONS) {
                undoOf(b, rich, action);
            }
            undoOf(b, rich + "clearText() 'unfold;fold 3;lines 9;' ", "run()");
            undoOf(b, rich + "clearText() 'sheet 4 2;spine left;fold 3;note 1 1 1;lines 9;' ", "run()");
        }
    }

    private static void undoOf(Bench b, String first, String action) {
        int answer = Call.row(action).get(0).on(Call.made(Call.row(first)));
        if (Call.isRefusal(answer)) {
            b.row(first + action + "=" + answer);
        } else {
            b.action(first, action);
        }
    }

    private static void errorTerms(Bench b) {
        b.term("Errors", "A call that returns an error code changes nothing");
        String[] everywhere = {"setSheet(3, 1)=INVALID", "fold(5)=INVALID", "setSpine(2)=INVALID", "print(0, 0, 0, 32, 0)=INVALID",
            "printAll(5)=INVALID", "cut(4)=INVALID", "staple(10)=INVALID", "unstaple(10)=INVALID", "unstaple(3)=ILLEGAL", "setLegs(17)=INVALID",
            "see(32, 0, 0)=INVALID", "addNote(0, 0, 21, 0)=INVALID", "removeNote(12)=INVALID", "setLines(10)=INVALID", "take(2)=INVALID",
            "restore(2)=INVALID", "append(256)=INVALID", "count(16)=INVALID", "side(4, 0, 0, 0)=INVALID", "layer(16, 0, 0)=INVALID",
            "note(12, 0)=INVALID", "effort(5)=INVALID", "fitting(3)=INVALID", "readsBy(0)=INVALID", "cutsFor(0)=INVALID", "best(3)=INVALID"};
        for (String rich : RICH) {
            b.rows(rich, everywhere);
        }
        String[] open = {"unfold()=ILLEGAL", "cut(0)=ILLEGAL", "staple(0)=ILLEGAL", "restore(1)=ILLEGAL", "page(0, 0)=ILLEGAL", "index(0, 0)=ILLEGAL",
            "opening(0, 0)=ILLEGAL", "hanging(0)=ILLEGAL", "together(0, 1)=ILLEGAL", "pieces()=ILLEGAL", "reading(0)=ILLEGAL", "pageOf(0)=ILLEGAL"};
        b.rows(RICH[0], open);
        b.rows(RICH[1], "fold(3)=ILLEGAL", "fold(4)=ILLEGAL", "print(0, 0, 0, 1, 0)=ILLEGAL", "printAll(113)=ILLEGAL", "cut(0)=ILLEGAL",
                "staple(0)=ILLEGAL", "run()=-1006");
        b.rows(RICH[2], "fold(1)=ILLEGAL", "print(0, 0, 0, 1, 0)=ILLEGAL", "printAll(13)=ILLEGAL", "restore(1)=ILLEGAL", "page(8, 0)=INVALID",
                "opening(5, 0)=INVALID", "hanging(4)=INVALID", "together(4, 0)=INVALID", "reading(3)=INVALID", "pageOf(32)=INVALID",
                "index(-1, 0)=INVALID", "run()=-1000");
        b.rows(RICH[3], "fold(1)=ILLEGAL", "unfold()=ILLEGAL", "setSpine(1)=ILLEGAL", "print(0, 0, 0, 1, 0)=ILLEGAL", "printAll(2)=ILLEGAL",
                "cut(0)=ILLEGAL", "staple(0)=ILLEGAL", "staple(1)=FULL", "see(0, 0, 0)=FULL", "addNote(0, 0, 1, 0)=FULL", "restore(0)=ILLEGAL",
                "append(32)=FULL", "run()=-1119");
        b.row("undo()=ILLEGAL");
        b.row("'lines 9;' setLines(1) undo() undo()=ILLEGAL run()=1");
    }

    private static void firstOfErrors(Bench b) {
        b.term("Errors", "If several error conditions apply, the method returns the one that its description lists first");
        b.rows("fold(3)", "fold(0)=INVALID", "print(0, 0, 0, 1, 2)=INVALID", "printAll(0)=INVALID", "cut(4)=INVALID", "staple(-1)=INVALID",
                "unstaple(-1)=INVALID", "restore(-1)=INVALID", "page(-1, -1)=ILLEGAL", "opening(-1, -1)=ILLEGAL", "hanging(-1)=ILLEGAL",
                "together(-1, -1)=ILLEGAL", "reading(-1)=ILLEGAL", "pageOf(-1)=ILLEGAL", "index(-1, -1)=ILLEGAL");
        b.rows(RICH[3], "fold(5)=INVALID", "setSpine(-1)=INVALID", "print(1, 0, 0, 1, 0)=INVALID", "printAll(3)=INVALID", "cut(-1)=INVALID",
                "staple(10)=INVALID", "staple(9)=ILLEGAL", "see(4, 0, 0)=INVALID", "addNote(0, 0, 0, 0)=INVALID", "append(0)=INVALID",
                "restore(3)=INVALID");
    }

    private static void noneIsNoError(Bench b) {
        b.term("Errors", "NONE is no error, and it is returned only if no error condition applies");
        b.row("print(0, 0, 0, 1, 0)=NONE count(11)=1 side(0, 0, 0, 0)=1 undo()=0 side(0, 0, 0, 0)=NONE");
        b.row("side(0, 0, 0, 0)=NONE side(2, 0, 0, 0)=INVALID side(0, 0, 0, 2)=INVALID print(0, 0, 2, 1, 0)=INVALID");
        b.row("setSheet(1, 1) page(0, 3)=NONE page(2, 3)=INVALID page(0, 4)=NONE page(-1, 4)=INVALID pageOf(0)=NONE pageOf(-1)=INVALID"
                + " index(0, 0)=NONE index(0, 2)=INVALID printAll(0) reading(1)=NONE reading(2)=NONE reading(3)=INVALID");
        b.row("print(0, 0, 0, 5, 0) fold(1) print(0, 1, 0, 5, 0)=ILLEGAL pageOf(9)=ILLEGAL index(9, 0)=ILLEGAL page(0, 3)=ILLEGAL reading(1)=ILLEGAL"
                + " addNote(0, 0, 1, 0) note(0, 4)=NONE note(1, 4)=INVALID note(0, 7)=INVALID");
        b.row("setSheet(1, 1) see(0, 0, 0) fitting(1)=NONE fitting(3)=INVALID");
    }

    private static void constants(Bench b) {
        b.term("Errors", "The constants: INVALID_ARGUMENT = -1: An argument is out of range, or names something that does not exist");
        b.is("INVALID_ARGUMENT", CribBooklet.INVALID_ARGUMENT, -1);
        b.rows("", "setLines(10)=-1", "removeNote(0)=-1", "note(0, 0)=-1", "layer(8, 0, 0)=-1", "setSheet(1, 1) page(2, 0)=-1");
        b.term("Errors", "ILLEGAL_STATE = -2: The call is not possible in the present state");
        b.is("ILLEGAL_STATE", CribBooklet.ILLEGAL_STATE, -2);
        b.rows("", "unfold()=-2", "undo()=-2", "restore(0)=-2", "pieces()=-2");
        b.term("Errors", "CAPACITY_EXCEEDED = -3: There is no room");
        b.is("CAPACITY_EXCEEDED", CribBooklet.CAPACITY_EXCEEDED, -3);
        b.rows("", "8*see(0, 0, 0) see(0, 0, 0)=-3", "12*addNote(0, 0, 1, 0) addNote(0, 0, 1, 0)=-3", FULL_TEXT + "append(32)=-3",
                "setSheet(1, 1) staple(0) staple(1) staple(2) staple(3)=-3");
        b.term("Errors", "NONE = -9: There is no such value");
        b.is("NONE", CribBooklet.NONE, -9);
        b.rows("setSheet(1, 1)", "pageOf(0)=-9", "index(0, 0)=-9", "side(0, 0, 0, 0)=-9");
    }

    private static void take(Bench b) {
        b.promise(17, "Takes a snapshot, in place of one that is there");
        b.row("take(0) setLines(9) take(0)=0 count(10)=1 setLines(1) restore(0) count(13)=9");
        b.row("take(1) setLines(9) take(0) setLines(1) take(1) restore(0) count(13)=9 restore(1) count(13)=1");
        b.promise(17, "This is an action");
        b.action("", "take(0)");
        b.action("take(0) setLines(9)", "take(0)");
        b.action("take(0) take(1) setLines(1) setLines(2) setLines(3)", "take(1)");
        b.promise(17, "slot: 0 or 1");
        b.range("", "take(#)", 0, 1);
        b.promise(17, "Returns the number of folds");
        b.row("setSheet(4, 4) take(0)=0 fold(1) take(0)=1 fold(3) fold(1) take(1)=3 fold(3) take(0)=4");
        b.promise(17, "INVALID_ARGUMENT if slot is out of range");
        b.rows("take(0) take(1)", "take(2)=INVALID", "take(-1)=INVALID");
    }

    private static void restore(Bench b) {
        b.promise(18, "Restores a snapshot, which stays");
        b.row("take(0) setLines(9) restore(0)=0 count(13)=5 count(10)=1 setLines(8) restore(0)=0 count(13)=5");
        b.row("take(1) print(0, 0, 0, 1, 0) restore(1) print(0, 0, 0, 2, 0)=NONE restore(1) side(0, 0, 0, 0)=NONE");
        b.promise(18, "This is an action");
        b.action("take(0) setLines(9)", "restore(0)");
        b.action("take(0)", "restore(0)");
        b.action("setSheet(1, 1) cut(1) take(1) setSheet(4, 4) fold(1)", "restore(1)");
        b.promise(18, "slot: 0 or 1");
        b.range("take(0) take(1)", "restore(#)", 0, 1);
        b.promise(18, "Returns the number of folds then");
        b.row("setSheet(4, 4) take(0) fold(1) fold(1) fold(3) fold(3) take(1) restore(0)=0 restore(1)=4 count(2)=4"
                + " unfold() restore(0)=0 restore(1)=4");
        b.promise(18, "INVALID_ARGUMENT if slot is out of range");
        b.rows("", "restore(2)=INVALID", "restore(-1)=INVALID", "take(0) take(1) restore(2)=INVALID");
        b.promise(18, "ILLEGAL_STATE if the slot is empty");
        b.rows("", "restore(0)=ILLEGAL", "restore(1)=ILLEGAL", "take(0) restore(1)=ILLEGAL", "take(1) restore(0)=ILLEGAL",
                "take(1) undo() restore(1)=ILLEGAL");
    }

    private static void undo(Bench b) {
        b.promise(19, "Removes the latest state from the history and restores it");
        b.row("setLines(1) setLines(2) setLines(3) undo() count(13)=2 undo() count(13)=1 undo() count(13)=5");
        b.same("take(0) fold(1) fold(3) undo() undo()", "take(0)");
        b.promise(19, "Returns the number of states that are left in the history");
        b.row("7*forget() undo()=4 undo()=3 forget() undo()=3 undo()=2 undo()=1 undo()=0");
        b.promise(19, "ILLEGAL_STATE if it is empty");
        b.rows("", "undo()=ILLEGAL", "forget() undo()=0 undo()=ILLEGAL", "fold(9)=INVALID undo()=ILLEGAL", "'x' undo()=ILLEGAL");
    }
}
