/** The boundary cases of the text and of programs: promises 20 to 22 and their terms. The sign @ marks where one fails. */
final class ProgramEdges {
    private static final String ONE = "setSheet(1, 1)";
    private static final String MOST = "setSheet(4, 4)";
    private static final String ALL_FOLDED = "setSheet(4, 4) fold(1) fold(1) fold(3) fold(3)";

    private ProgramEdges() {
    }

    static void tests(Bench b) {
        programTerms(b);
        commandTerms(b);
        bookletCommands(b);
        noteCommands(b);
        tokenTerms(b);
        numberTerms(b);
        spaceTerms(b);
        failureTerms(b);
        placeTerms(b);
        append(b);
        clearText(b);
        run(b);
    }

    private static String spaces(int many) {
        return " ".repeat(many);
    }

    private static void programTerms(Bench b) {
        b.term("Programs", "A text of at most 120 characters can be run as a program");
        b.runs("", "lines 9;" + spaces(112), 1);
        b.runs("", spaces(112) + "lines 9;", 1);
        b.runs("", "lines1;".repeat(17) + " ", 17);
        b.runs(MOST, "fold1;fold1;fold3;fold3;" + "unfold;".repeat(4) + "lines9;".repeat(9) + spaces(5), 17);
        b.row("119*append(32) append(59)=120 append(59)=FULL run()=-1119 clearText()=120");
        b.term("Programs", "commands (possibly none), each of which ends with \";\", a word and then what it needs:");
        b.runs("", "", 0);
        b.runs("", " ", 0);
        b.runs("", spaces(120), 0);
        b.runs("fold(1)", "unfold;", 1);
        b.fails("", "@;", " @;", "lines 1;@;", "lines 1@", "lines 1 @lines 2;", "@1;", "lines 1;@1 lines;", "@\"lines\" 1;", "@x;", "@sheets 1 1;",
                "@shee 1 1;", "@Sheet 1 1;", "@lline 1;", "@foldfold 1;");
        b.fails("fold(1)", "@theet 1 1;", "@sheer 1 1;", "@gold 1;", "@folt 1;", "@infold;", "@unfolt;", "@opine top;", "@spins top;",
                "@prins 0;", "@orint 0;", "@out top;", "@cup top;", "@ttaple 0;", "@staplf 0;", "@vote 0 0 1;", "@nota 0 0 1;", "@mines 1;",
                "@linet 1;", "@left;", "@whole;");
    }

    private static void commandTerms(Bench b) {
        b.term("Programs", "\"sheet\" ROWS COLUMNS as setSheet()");
        b.runs("", "sheet 4 1;", 1);
        b.same("'sheet 4 1;' run()", "setSheet(4, 1)");
        b.same("print(0, 0, 0, 1, 0) 'sheet 2 4;' run()", "print(0, 0, 0, 1, 0) setSheet(2, 4)");
        b.fails("", "@sheet 0 1;", "@sheet 1 0;", "@sheet 3 1;", "@sheet 1 8;", "sheet@;", "sheet 1@;", "sheet 1 1 @1;", "sheet @left 1;",
                "sheet 1 @left;", "sheet@-1 1;", "sheet 2@,2;");
        b.term("Programs", "\"fold\" FOLD, 1 to 4 of them as fold() for each of them, in order");
        b.runs("", "fold 1;", 1);
        b.runs(MOST, "fold 1 3 2 4;", 1);
        b.same("setSheet(4, 4) 'fold 4 2;' run()", "setSheet(4, 4) fold(4) fold(2)");
        b.same("setSheet(4, 4) 'fold 1 3 2 4;' run()", "setSheet(4, 4) fold(1) fold(3) fold(2) fold(4)");
        b.fails(MOST, "fold@;", "fold 1 1 3 3 @1;", "@fold 0;", "@fold 5;", "@fold 1 1 1;", "@fold 1 1 3 5;", "fold 1 @left;", "fold @x;",
                "fold 1 2;fold 3 4;@fold 1;");
        b.fails(ALL_FOLDED + " cut(0)", "@fold 1;");
        b.term("Programs", "\"unfold\" as unfold()");
        b.same("fold(1) fold(3) 'unfold;' run()", "fold(1) fold(3) unfold()");
        b.fails("", "@unfold;", "unfold @1;", "unfold@", "fold 1;unfold;@unfold;");
        b.fails(ALL_FOLDED + " staple(0)", "@unfold;");
        b.term("Programs", "\"spine\" \"left\" or \"top\" as setSpine()");
        b.same("'spine top;' run()", "setSpine(1)");
        b.same("setSpine(1) 'spine left;' run()", "setSpine(1) setSpine(0)");
        b.fails("", "spine @meft;", "spine @lefs;", "spine @sop;", "spine @tos;", "spine@;", "spine @right;", "spine @bottom;",
                "spine @0;", "spine @1;", "spine @lef;", "spine @topp;", "spine top @top;");
        b.fails(ALL_FOLDED + " staple(0)", "@spine top;", "@spine left;");
        b.term("Programs", "\"print\" FOLDS as printAll()");
        b.same("'print 113;' run()", "printAll(113)");
        b.same("setSheet(1, 1) 'print 0;' run()", "setSheet(1, 1) printAll(0)");
        b.same("setSheet(4, 4) 'print 4422;' run()", "setSheet(4, 4) printAll(4422)");
        b.fails("", "print@;", "print 113 @1;", "@print 0;", "@print 11;", "@print 1133;", "print @11333;", "print @left;", "fold 1;@print 113;",
                "print@-1;");
        b.fails(ONE + " cut(0)", "@print 0;", "@print 1;");
    }

    private static void bookletCommands(Bench b) {
        b.term("Programs", "\"cut\" \"left\", \"right\", \"top\" or \"bottom\" as cut()");
        b.same(ALL_FOLDED + " 'cut left;' run()", ALL_FOLDED + " cut(0)");
        b.same(ALL_FOLDED + " 'cut right;' run()", ALL_FOLDED + " cut(1)");
        b.same(ALL_FOLDED + " 'cut top;' run()", ALL_FOLDED + " cut(2)");
        b.same(ALL_FOLDED + " 'cut bottom;' run()", ALL_FOLDED + " cut(3)");
        b.fails(ONE, "cut @deft;", "cut @night;", "cut @righs;", "cut @cottom;", "cut @bottos;", "cut @too;", "cut@;", "cut @0;",
                "cut @middle;", "cut left @right;", "cut top;@cut top;", "cut @bottoms;");
        b.fails("", "@cut left;", "fold 1 1;@cut left;");
        b.term("Programs", "\"staple\" PLACE as staple()");
        b.same(ONE + " 'staple 0;' run()", ONE + " staple(0)");
        b.same(ALL_FOLDED + " 'staple 9;' run()", ALL_FOLDED + " staple(9)");
        b.fails(ONE, "staple@;", "@staple 10;", "staple 0 @1;", "staple @left;", "staple 1;@staple 1;", "staple@-1;",
                "staple 0;staple 1;staple 2;@staple 3;");
        b.fails("", "@staple 0;");
    }

    private static void noteCommands(Bench b) {
        b.term("Programs", "\"note\" SUBJECT URGENCY LINES, perhaps \"whole\" as addNote()");
        b.same("'note 0 0 1;' run()", "addNote(0, 0, 1, 0)");
        b.same("'note 99 9 20 whole;' run()", "addNote(99, 9, 20, 1)");
        b.same("'note 1 2 3 whole;note 4 5 6;' run()", "addNote(1, 2, 3, 1) addNote(4, 5, 6, 0)");
        b.fails("", "note 1 2 3 @vhole;", "note 1 2 3 @wholf;", "note@;", "note 1@;", "note 1 2@;", "note 1 2 @whole;", "note 1 2 3 @4;",
                "note 1 2 3 whole @whole;", "note 1 2 3 @wholes;", "note 1 2 3 @left;", "@note 100 0 1;", "@note 0 10 1;",
                "@note 0 0 0;", "@note 0 0 21 whole;", "note @whole;");
        b.fails("12*addNote(0, 0, 1, 0)", "@note 0 0 1;");
        b.term("Programs", "\"lines\" LINES as setLines()");
        b.same("'lines 1;' run()", "setLines(1)");
        b.same("'lines 9;' run()", "setLines(9)");
        b.fails("", "lines@;", "@lines 0;", "@lines 10;", "lines 1 @2;", "lines @top;");
    }

    private static void tokenTerms(Bench b) {
        b.term("Programs", "Tokens are maximal runs of letters a to z, maximal runs of digits, and any other character that is no space");
        b.fails("fold(1)", "@unfolda;", "@unfoldz;", "@aunfold;", "@zunfold;", "unfold@A;", "unfold@Z;", "@Aunfold;", "unfold@`;", "unfold@{;",
                "unfold@_;", "@{unfold;", "unfold@\u00e9;");
        b.fails("", "lines 5@/;", "lines 5@:;", "lines @/5;", "lines @:5;", "@lines 50;", "@lines 59;", "lines@;;", "lines 5;@;;", "lines@.5;");
        for (int c = 1; c <= 255; c++) {
            String row = "'fold 1' append(" + c + ") append(59) run()=";
            if (c == ' ') {
                b.row(row + 1);
            } else if (c == ';') {
                b.row(row + -1007);
            } else {
                b.row(row + (c >= '0' && c <= '9' ? -1000 : -1006));
            }
        }
    }

    private static void numberTerms(Bench b) {
        b.term("Programs", "A number is a run of 1 to 4 digits, the first of several not 0");
        b.runs("", "lines 9;", 1);
        b.runs("", "note 10 0 10;", 1);
        b.runs("", "print 113;", 1);
        b.runs(MOST, "print 1133;", 1);
        b.runs("", "note 0 0 1;", 1);
        b.fails("", "lines @00;", "lines @01;", "lines @0001;", "lines @00000;", "lines @10000;", "lines @12345678;",
                "note 0 0 @01;", "note 1 @00 1;", "@lines 9999;", "@lines 1000;");
        b.fails(MOST, "print @01133;", "print @11330;");
        b.term("Programs", "(if it is out of range for a call, the call fails)");
        b.fails("", "@lines 0;", "@lines 10;", "@fold 0;", "@sheet 9999 9999;", "@print 9999;", "@staple 9999;",
                "@note 100 10 21;", "lines 1;@lines 0;x");
    }

    private static void spaceTerms(Bench b) {
        b.term("Programs", "Spaces (code 32) may stand before, between and after tokens");
        b.runs("", "   lines   1   ;   lines 2 ;  ", 2);
        b.runs("", "lines 1 ;", 1);
        b.same("'  sheet  4   4 ;  fold  1  3 ;  ' run()", "setSheet(4, 4) fold(1) fold(3)");
        b.row("'lines' append(9) '1;' run()=-1005");
        b.row("'lines' append(10) '1;' run()=-1005");
        b.row("'lines' append(160) '1;' run()=-1005");
        b.row("append(31) 'lines 1;' run()=-1000");
        b.row("append(33) 'lines 1;' run()=-1000");
        b.fails("", "@li nes 1;", "print 1 @13;");
        b.term("Programs", "they are needed only between two runs of letters and between two runs of digits");
        b.runs("", "lines1;", 1);
        b.runs("", "sheet4 4;fold1 1;lines9;note0 0 1whole;", 4);
        b.runs("fold(1)", "unfold;", 1);
        b.fails("", "sheet 44@;", "@linesone;", "@spineleft;", "note 1 23@;", "note 1 2 3@wholewhole;", "@sheet 11 4;");
    }

    private static void failureTerms(Bench b) {
        b.term("Programs", "The commands are read and run one by one, each as its \";\" is read");
        b.runs("", "fold 1;unfold;fold 2;unfold;", 4);
        b.fails("", "@fold 5;x", "@fold 5;", "fold 5@", "fold 5 @x;", "lines 1;@lines 0;lines x;", "lines 1;lines @x;lines 0;", "@unfold;fold 1;",
                "fold 1;fold 1;fold 3;@fold 3;");
        b.term("Programs", "A program fails at the first token that is not allowed where it stands");
        b.fails("", "@x y z;", "lines @x y;", "lines 1 @x;", "lines 1;@x;y;", "sheet @00 00;", "sheet 1 @x x;", "fold @00 9;");
        b.term("Programs", "and at the first command of which a call returns an error code (the place is then that of its word)");
        b.fails("", "@lines 0;lines 10;", "lines 1; @lines 0;", "  @lines   0   ;", "fold 1; @fold 1 1 3 3;", "fold 1;@fold 1 5 3;", "@fold 3 3;");
        b.runs(ONE, "print 0;", 1);
        b.runs("", "note 0 0 1;".repeat(2), 2);
    }

    private static void placeTerms(Bench b) {
        b.term("Programs", "The place of a failure is the offset (from 0) of the first character of the token,"
                + " or the length of the text if it ends where something is missing");
        b.fails("", "@x", "lines 1@", "lines@", "lines  @", "lines 1   @", "sheet 1 @", "spine@", "note 1 2@", "note 1 2 3 whole@",
                "fold 1;fold@", " @x", "lines 1;  @x", "@99999", "lines @00", "unfold@", "lines 1;unfold @");
        b.fails("", "lines1;".repeat(16) + "lines  1@", "lines1;".repeat(17) + "@x", spaces(119) + "@x", spaces(114) + "lines" + " @",
                "lines1;".repeat(15) + "       @lines 0;");
        b.term("Programs", "If a program fails, nothing that it has done stays");
        String busy = "sheet 1 2;print 2;fold 2;cut left;staple 9;note 9 9 9 whole;spine top;lines 9;";
        b.fails("", busy.replace("spine", "@spine"), busy.replace("spine top;", "") + "@x", busy.replace("spine top;", "") + "@lines 0;",
                busy.replace("spine top;", "") + "lines 1@");
        b.fails(ALL_FOLDED + " take(0) setLines(3) addNote(1, 1, 1, 1) see(0, 0, 0)", "unfold;unfold;fold 4 3;cut top;staple 1;@staple 1;",
                "sheet 2 1;lines 9;note 1 1 1;spine top;@sheet 3 1;");
        b.fails("setLines(1) setLines(2) setLines(3) setLines(4) setLines(6) setLines(7)", "lines 8;lines 9;@lines 10;");
    }

    private static void append(Bench b) {
        b.promise(20, "Appends a character to the text");
        b.row("'lines 9;' run()=1 count(13)=9");
        b.row("append(1) count(12)=1 append(255) count(12)=2 count(11)=0");
        b.promise(20, "character: character code, 1 to 255");
        b.range("", "append(#)", 1, 255);
        b.promise(20, "Returns the new length of the text");
        StringBuilder row = new StringBuilder();
        for (int length = 1; length <= 120; length++) {
            row.append("append(255)=" + length + " ");
        }
        b.row(row.toString());
        b.row("append(32)=1 clearText() append(32)=1 run() append(32)=1");
        b.promise(20, "INVALID_ARGUMENT if character is out of range");
        b.row("append(0)=INVALID append(256)=INVALID append(-1)=INVALID");
        b.row("120*append(32) append(0)=INVALID append(256)=INVALID append(MIN)=INVALID append(MAX)=INVALID");
        b.promise(20, "CAPACITY_EXCEEDED if the text already has 120 characters");
        b.row("119*append(32) append(1)=120 append(1)=FULL append(255)=FULL append(59)=FULL clearText()=120 append(1)=1");
        b.row("112*append(32) 'lines 9;' append(120)=FULL run()=1 append(120)=1");
    }

    private static void clearText(Bench b) {
        b.promise(21, "Makes the text empty");
        b.row("'x' clearText() count(12)=0 run()=0");
        b.row("120*append(120) clearText() count(12)=0 'lines 9;' run()=1 count(13)=9 clearText()=0");
        b.row("'lines 9;' clearText() undo()=ILLEGAL run()=0 count(13)=5");
        b.row("'lines 12;' run()=-1000 clearText() 'lines 1' run()=-1007 clearText() 'line' run()=-1000");
        b.row("'lines  x' run()=-1007 clearText() 'lines' run()=-1005");
        b.row("'lines 1;lines 2;' run()=2 'lines 3;' run()=1 count(13)=3 'lines 4' run()=-1007");
        b.promise(21, "Returns the previous length of the text");
        b.row("clearText()=0 append(1) clearText()=1 clearText()=0 120*append(1) clearText()=120 119*append(1) clearText()=119");
    }

    private static void run(Bench b) {
        b.promise(22, "Runs the text as a program");
        b.runs("", "lines 8;", 1);
        b.row("'lines 8;' run()=1 count(13)=8 run()=0 count(13)=8");
        b.promise(22, "If it does not fail, this is one action, also without commands, and the text becomes empty");
        b.action("", "run()");
        b.action(" 120*append(32)", "run()");
        b.action("'sheet 1 2;fold 1;cut left;lines 9;note 1 2 3;'", "run()");
        b.action("setLines(1) setLines(2) setLines(3) setLines(4) setLines(6) 'lines 8;lines 9;lines 7;'", "run()");
        b.row("'lines 1;lines 2;' run() count(11)=1 count(12)=0 undo()=0 count(13)=5 count(12)=0");
        b.promise(22, "if it fails, the text is kept");
        b.row("'lines 1' run()=-1007 count(12)=7 append(59)=8 run()=1 count(13)=1 count(12)=0 count(11)=1");
        b.row("'fold 1 1;cut left;' run()=-1009 run()=-1009 count(12)=18 fold(3) run()=2 count(12)=0 count(6)=1");
        b.row("'unfold;' run()=-1000 count(11)=0 fold(1) run()=1 count(11)=2");
        b.promise(22, "Returns the number of commands");
        for (int many = 0; many <= 17; many++) {
            b.runs("", "lines5;".repeat(many), many);
        }
        b.runs(MOST, "fold 1 1 3 3;", 1);
        b.promise(22, "-1000 minus the place of the failure if it fails");
        b.row("'x' run()=-1000");
        b.row("' x' run()=-1001");
        b.row("119*append(32) append(120) run()=-1119");
        b.row("115*append(32) 'lines' run()=-1120");
    }
}
