import java.util.Arrays;

/** A crib sheet that is folded into a booklet of small pages, as the project's document tells. */
public final class CribBooklet {
    public static final int INVALID_ARGUMENT = -1;
    public static final int ILLEGAL_STATE = -2;
    public static final int CAPACITY_EXCEEDED = -3;
    public static final int NONE = -9;

    private static final int MAX_CELLS = 16;
    private static final int MAX_SIDES = 32;
    /** The sheet's cells are numbered row by row as if each row had this many, whatever the sheet. */
    private static final int CELLS_A_ROW = 4;

    private static final int LEFT_OVER = 1;
    private static final int RIGHT_OVER = 2;
    private static final int UPPER_OVER = 3;
    private static final int LOWER_OVER = 4;
    private static final int MAX_FOLDS = 4;
    private static final int GREATEST_ROW_OF_FOLDS = 4444;
    /** So many numbers have none to four digits, all of them 1 to 4. */
    private static final int ROWS_OF_FOLDS = 341;

    private static final int LEFT = 0;
    private static final int RIGHT = 1;
    private static final int TOP = 2;
    private static final int BOTTOM = 3;
    private static final int EDGES = 4;

    private static final int SPINE_TOP = 1;
    private static final int MAX_STAPLES = 3;
    private static final int STAPLE_PLACES = 10;
    private static final int MAX_LEGS = 16;

    private static final int MAX_SIGHTS = 8;
    private static final int MAX_NOTES = 12;
    private static final int SUBJECTS = 100;
    private static final int MAX_LINES = 9;
    private static final int MAX_NOTE_LINES = 20;

    private static final int FOLD_EFFORT = 0;
    private static final int PRINT_EFFORT = 1;
    private static final int CUT_EFFORT = 2;
    private static final int STAPLE_EFFORT = 3;
    private static final int EFFORTS = 4;

    private static final int SLOTS = 2;
    private static final int MAX_STATES = 5;

    private static final int MAX_TEXT = 120;
    private static final int MAX_CHARACTER = 255;
    private static final int MAX_ARGUMENTS = 4;
    private static final int FAILED_AT_START = -1000;
    /** Where a place of a failure is told: nothing failed. */
    private static final int NOWHERE = -1;

    private static final int NO_COMMAND = 0;
    private static final int SHEET = 1;
    private static final int FOLD = 2;
    private static final int UNFOLD = 3;
    private static final int SPINE = 4;
    private static final int PRINT = 5;
    private static final int CUT = 6;
    private static final int STAPLE = 7;
    private static final int NOTE = 8;
    private static final int LINES = 9;

    private final State now = new State();
    private final History past = new History();
    /** The open sheet, folded for a trial; what it holds is of no matter behind a call. */
    private final Leaves trial = new Leaves();
    private final Layout layout = new Layout();
    private final int[] text = new int[MAX_TEXT];
    private int textLength = 0;
    private final Reader reader = new Reader();
    private final int[] arguments = new int[MAX_ARGUMENTS];
    private int argumentCount = 0;

    public CribBooklet() {
    }

    // ---- sheet and folds

    public int setSheet(int rows, int columns) {
        past.keep(now);
        return past.settle(now.desk.takeSheet(rows, columns));
    }

    public int fold(int fold) {
        past.keep(now);
        return past.settle(now.desk.foldOnce(fold));
    }

    public int unfold() {
        past.keep(now);
        return past.settle(now.desk.foldBack());
    }

    public int setSpine(int spine) {
        past.keep(now);
        return past.settle(now.desk.moveSpine(spine));
    }

    public int print(int row, int column, int side, int number, int turned) {
        past.keep(now);
        return past.settle(now.desk.printSide(row, column, side, number, turned));
    }

    public int printAll(int folds) {
        past.keep(now);
        return past.settle(now.desk.printSheet(trial, folds));
    }

    // ---- cuts and staples

    public int cut(int edge) {
        past.keep(now);
        return past.settle(now.desk.cutAlong(edge));
    }

    public int staple(int place) {
        past.keep(now);
        return past.settle(now.desk.setStaple(place));
    }

    public int unstaple(int place) {
        past.keep(now);
        return past.settle(now.desk.drawStaple(place));
    }

    public int setLegs(int legs) {
        past.keep(now);
        return past.settle(now.desk.changeLegs(legs));
    }

    // ---- sights and notes

    public int see(int page, int number, int turned) {
        past.keep(now);
        return past.settle(now.desk.keepSight(page, number, turned));
    }

    public int forget() {
        past.keep(now);
        return past.settle(now.desk.sights.dropAll());
    }

    public int addNote(int subject, int urgency, int lines, int whole) {
        past.keep(now);
        return past.settle(now.desk.notes.put(subject, urgency, lines, whole));
    }

    public int removeNote(int note) {
        past.keep(now);
        return past.settle(now.desk.notes.drop(note));
    }

    public int setLines(int lines) {
        past.keep(now);
        return past.settle(now.desk.changeLines(lines));
    }

    // ---- snapshots

    public int take(int slot) {
        past.keep(now);
        return past.settle(now.fillSlot(slot));
    }

    public int restore(int slot) {
        past.keep(now);
        return past.settle(now.useSlot(slot));
    }

    public int undo() {
        return past.goBack(now);
    }

    // ---- programs

    public int append(int character) {
        if (!isIn(character, 1, MAX_CHARACTER)) {
            return INVALID_ARGUMENT;
        }
        if (textLength < 0 || textLength >= MAX_TEXT) {
            return CAPACITY_EXCEEDED;
        }
        text[textLength] = character;
        textLength++;
        return textLength;
    }

    public int clearText() {
        int previous = textLength;
        textLength = 0;
        return previous;
    }

    public int run() {
        past.keep(now);
        reader.start(text, textLength);
        int commands = 0;
        // Each command takes at least a character: there are no more of them than characters.
        while (commands <= MAX_TEXT && reader.hasToken()) {
            int place = reader.tokenStart;
            int command = commandAt(reader);
            int failure = readCommand(command);
            if (failure == NOWHERE && isError(obey(command))) {
                failure = place;
            }
            if (failure != NOWHERE) {
                past.bringBack(now);
                return FAILED_AT_START - failure;
            }
            commands++;
        }
        textLength = 0;
        return past.settle(commands);
    }

    /** Reads a command from its word to its end; answers the place of a token that is not allowed. */
    private int readCommand(int command) {
        if (command == NO_COMMAND) {
            return reader.tokenStart;
        }
        reader.advance();
        readArguments(command);
        if (argumentCount < fewestArguments(command) || !reader.isCharacter(';')) {
            return reader.tokenStart;
        }
        reader.advance();
        return NOWHERE;
    }

    /** Reads as many tokens as the command allows; the reader stands at the next one then. */
    private void readArguments(int command) {
        argumentCount = 0;
        Arrays.fill(arguments, 0);
        if (command == SPINE || command == CUT) {
            readArgument(edgeAt(reader, command == CUT));
            return;
        }
        int most = mostNumbers(command);
        for (int i = 0; i < most && reader.isNumber(); i++) {
            readArgument(reader.numberValue());
        }
        if (command == NOTE && argumentCount == most && reader.isWord("whole")) {
            readArgument(1);
        }
    }

    private void readArgument(int value) {
        if (value != NONE && isIn(argumentCount, 0, MAX_ARGUMENTS - 1)) {
            arguments[argumentCount] = value;
            argumentCount++;
            reader.advance();
        }
    }

    private static int mostNumbers(int command) {
        switch (command) {
            case PRINT:
            case STAPLE:
            case LINES:
                return 1;
            case SHEET:
                return 2;
            case NOTE:
                return 3;
            case FOLD:
                return MAX_FOLDS;
            default:
                return 0;
        }
    }

    private static int fewestArguments(int command) {
        switch (command) {
            case UNFOLD:
                return 0;
            case SHEET:
                return 2;
            case NOTE:
                return 3;
            default:
                return 1;
        }
    }

    private static int commandAt(Reader reader) {
        for (int command = SHEET; command <= LINES; command++) {
            if (reader.isWord(wordOf(command))) {
                return command;
            }
        }
        return NO_COMMAND;
    }

    private static String wordOf(int command) {
        switch (command) {
            case SHEET:
                return "sheet";
            case FOLD:
                return "fold";
            case UNFOLD:
                return "unfold";
            case SPINE:
                return "spine";
            case PRINT:
                return "print";
            case CUT:
                return "cut";
            case STAPLE:
                return "staple";
            case NOTE:
                return "note";
            case LINES:
                return "lines";
            default:
                return "";
        }
    }

    /** The edge that the token names, or the spine's side if not all edges are allowed, or NONE. */
    private static int edgeAt(Reader reader, boolean allEdges) {
        if (reader.isWord("left")) {
            return LEFT;
        }
        if (reader.isWord("top")) {
            return allEdges ? TOP : SPINE_TOP;
        }
        if (allEdges && reader.isWord("right")) {
            return RIGHT;
        }
        if (allEdges && reader.isWord("bottom")) {
            return BOTTOM;
        }
        return NONE;
    }

    private int obey(int command) {
        Desk desk = now.desk;
        switch (command) {
            case SHEET:
                return desk.takeSheet(arguments[0], arguments[1]);
            case FOLD:
                return obeyFolds(desk);
            case UNFOLD:
                return desk.foldBack();
            case SPINE:
                return desk.moveSpine(arguments[0]);
            case PRINT:
                return desk.printSheet(trial, arguments[0]);
            case CUT:
                return desk.cutAlong(arguments[0]);
            case STAPLE:
                return desk.setStaple(arguments[0]);
            case NOTE:
                return desk.notes.put(arguments[0], arguments[1], arguments[2], arguments[3]);
            case LINES:
                return desk.changeLines(arguments[0]);
            default:
                return ILLEGAL_STATE;
        }
    }

    private int obeyFolds(Desk desk) {
        int result = NONE;
        for (int i = 0; i < argumentCount && i < MAX_ARGUMENTS && !isError(result); i++) {
            result = desk.foldOnce(arguments[i]);
        }
        return result;
    }

    // ---- looking

    public int count(int what) {
        Desk desk = now.desk;
        switch (what) {
            case 0:
                return desk.paper.rows;
            case 1:
                return desk.paper.columns;
            case 2:
                return desk.leaves.foldCount;
            case 3:
                return desk.leaves.depth();
            case 4:
                return desk.leaves.folds;
            case 5:
                return asNumber(desk.leaves.isBooklet());
            case 6:
                return desk.cuts;
            case 7:
                return Integer.bitCount(desk.staples);
            case 8:
                return desk.sights.size;
            case 9:
                return desk.notes.size;
            case 10:
                return Integer.bitCount(now.filled);
            case 11:
                return past.size;
            case 12:
                return textLength;
            case 13:
                return desk.lines;
            case 14:
                return desk.legs;
            case 15:
                return desk.spine;
            default:
                return INVALID_ARGUMENT;
        }
    }

    public int side(int row, int column, int side, int what) {
        Paper paper = now.desk.paper;
        if (!paper.hasSide(row, column, side) || !isIn(what, 0, 1)) {
            return INVALID_ARGUMENT;
        }
        int place = placeOfSide(cellAt(row, column), side);
        return what == 0 ? paper.numberAt(place) : paper.turnAt(place);
    }

    public int layer(int place, int layer, int what) {
        Leaves leaves = now.desk.leaves;
        if (!isIn(place, 0, leaves.places() - 1) || !isIn(layer, 0, leaves.depth() - 1)) {
            return INVALID_ARGUMENT;
        }
        int at = place * leaves.depth() + layer;
        switch (what) {
            case 0:
                return leaves.rowAt(at);
            case 1:
                return leaves.columnAt(at);
            case 2:
                return leaves.sideUpAt(at);
            case 3:
                return asNumber(leaves.isUpsideDown(at));
            case 4:
                return asNumber(leaves.isMirrored(at));
            default:
                return INVALID_ARGUMENT;
        }
    }

    public int page(int page, int what) {
        Desk desk = now.desk;
        if (!desk.leaves.isBooklet()) {
            return ILLEGAL_STATE;
        }
        if (!isIn(page, 0, desk.leaves.lastPage())) {
            return INVALID_ARGUMENT;
        }
        switch (what) {
            case 0:
                return desk.leaves.rowAt(page / 2);
            case 1:
                return desk.leaves.columnAt(page / 2);
            case 2:
                return desk.leaves.sideOfPage(page);
            case 3:
                return desk.numberOn(desk.leaves, page);
            case 4:
                return uprightOn(desk, page);
            case 5:
                return asNumber(desk.isHidden(page));
            case 6:
                return asNumber(desk.whyNotRead(page) == 0);
            case 7:
                layout.arrange(desk);
                return layout.takenOn(page, desk.notes);
            default:
                return INVALID_ARGUMENT;
        }
    }

    private static int uprightOn(Desk desk, int page) {
        if (desk.numberOn(desk.leaves, page) == NONE) {
            return NONE;
        }
        return asNumber(desk.isUpright(desk.leaves, page));
    }

    public int opening(int opening, int what) {
        Desk desk = now.desk;
        if (!desk.leaves.isBooklet()) {
            return ILLEGAL_STATE;
        }
        if (!isIn(opening, 0, desk.leaves.depth())) {
            return INVALID_ARGUMENT;
        }
        switch (what) {
            case 0:
                return asNumber(desk.shutEdges(opening) != 0);
            case 1:
                return desk.shutEdges(opening);
            case 2:
                return desk.linesAt(opening);
            default:
                return INVALID_ARGUMENT;
        }
    }

    public int hanging(int edge) {
        Desk desk = now.desk;
        if (!desk.leaves.isBooklet()) {
            return ILLEGAL_STATE;
        }
        if (!isIn(edge, 0, EDGES - 1)) {
            return INVALID_ARGUMENT;
        }
        return isInSet(edge, desk.cuts) ? 0 : desk.leaves.pairsAlong(edge);
    }

    public int together(int one, int other) {
        Desk desk = now.desk;
        if (!desk.leaves.isBooklet()) {
            return ILLEGAL_STATE;
        }
        int last = desk.leaves.depth() - 1;
        if (!isIn(one, 0, last) || !isIn(other, 0, last) || one == other) {
            return INVALID_ARGUMENT;
        }
        return desk.leaves.edgesBetween(one, other) & ~desk.cuts;
    }

    public int pieces() {
        Desk desk = now.desk;
        return desk.leaves.isBooklet() ? desk.countPieces() : ILLEGAL_STATE;
    }

    public int reading(int what) {
        Desk desk = now.desk;
        if (!desk.leaves.isBooklet()) {
            return ILLEGAL_STATE;
        }
        if (!isIn(what, 0, 2)) {
            return INVALID_ARGUMENT;
        }
        int last = desk.leaves.lastPage();
        for (int page = 0; page <= last; page++) {
            int why = desk.whyNotRead(page);
            if (why != 0) {
                return what == 2 ? why : page;
            }
        }
        return what == 0 ? last + 1 : NONE;
    }

    public int pageOf(int number) {
        Desk desk = now.desk;
        if (!desk.leaves.isBooklet()) {
            return ILLEGAL_STATE;
        }
        if (!isIn(number, 0, MAX_SIDES - 1)) {
            return INVALID_ARGUMENT;
        }
        int last = desk.leaves.lastPage();
        for (int page = 0; page <= last; page++) {
            if (desk.numberOn(desk.leaves, page) == number) {
                return page;
            }
        }
        return NONE;
    }

    public int note(int note, int what) {
        Desk desk = now.desk;
        if (!desk.notes.has(note) || !isIn(what, 0, 6)) {
            return INVALID_ARGUMENT;
        }
        if (what < Notes.FIELDS) {
            return desk.notes.get(note, what);
        }
        if (!desk.leaves.isBooklet()) {
            return NONE;
        }
        layout.arrange(desk);
        int first = layout.firstLineOf(note);
        if (first == NONE) {
            return NONE;
        }
        if (what == 4) {
            return layout.pageOfLine(first);
        }
        if (what == 5) {
            return layout.lineOnPage(first);
        }
        return layout.pageOfLine(first + desk.notes.linesOf(note) - 1);
    }

    public int index(int place, int what) {
        Desk desk = now.desk;
        if (!desk.leaves.isBooklet()) {
            return ILLEGAL_STATE;
        }
        if (place < 0 || !isIn(what, 0, 1)) {
            return INVALID_ARGUMENT;
        }
        layout.arrange(desk);
        int before = 0;
        for (int subject = 0; subject < SUBJECTS; subject++) {
            int line = layout.firstLineAbout(subject, desk.notes);
            if (line != NONE) {
                if (before == place) {
                    return what == 0 ? subject : layout.pageOfLine(line);
                }
                before++;
            }
        }
        return NONE;
    }

    public int effort(int kind) {
        if (kind == EFFORTS) {
            return now.desk.effortOf(FOLD_EFFORT) + now.desk.effortOf(PRINT_EFFORT)
                    + now.desk.effortOf(CUT_EFFORT) + now.desk.effortOf(STAPLE_EFFORT);
        }
        return isIn(kind, 0, EFFORTS - 1) ? now.desk.effortOf(kind) : INVALID_ARGUMENT;
    }

    // ---- other folds

    public int fitting(int what) {
        if (!isIn(what, 0, 2)) {
            return INVALID_ARGUMENT;
        }
        int many = 0;
        int least = NONE;
        int greatest = NONE;
        for (int i = 0; i < ROWS_OF_FOLDS; i++) {
            int folds = rowOfFolds(i);
            if (tryFolds(folds) && now.desk.showsAllSights(trial)) {
                many++;
                least = least == NONE ? folds : least;
                greatest = folds;
            }
        }
        if (what == 0) {
            return many;
        }
        return what == 1 ? least : greatest;
    }

    public int readsBy(int folds) {
        return tryFolds(folds) ? now.desk.pagesInOrder(trial) : INVALID_ARGUMENT;
    }

    public int cutsFor(int folds) {
        return tryFolds(folds) ? now.desk.edgesToCut(trial) : INVALID_ARGUMENT;
    }

    public int best(int what) {
        if (!isIn(what, 0, 2)) {
            return INVALID_ARGUMENT;
        }
        int folds = bestFolds();
        if (what == 0) {
            return folds;
        }
        return what == 1 ? Integer.bitCount(cutsFor(folds)) : readsBy(folds);
    }

    private int bestFolds() {
        int best = NONE;
        int leastRank = 0;
        for (int i = 0; i < ROWS_OF_FOLDS; i++) {
            int folds = rowOfFolds(i);
            if (tryFolds(folds)) {
                // No booklet has so many pages that they could outweigh an edge.
                int rank = Integer.bitCount(now.desk.edgesToCut(trial)) * (MAX_SIDES + 1)
                        - now.desk.pagesInOrder(trial);
                if (best == NONE || rank < leastRank) {
                    best = folds;
                    leastRank = rank;
                }
            }
        }
        return best;
    }

    /** Folds the open sheet for a trial; answers whether it is a booklet then. */
    private boolean tryFolds(int folds) {
        return trial.foldBy(now.desk.paper.rows, now.desk.paper.columns, folds);
    }

    /** The numbers of which all digits are folds, by ascending numbers, 0 as the first one. */
    private static int rowOfFolds(int place) {
        int row = 0;
        int rest = place;
        for (int unit = 1; unit <= 1000 && rest > 0; unit *= 10) {
            row += ((rest - 1) % MAX_FOLDS + 1) * unit;
            rest = (rest - 1) / MAX_FOLDS;
        }
        return row;
    }

    // ---- what all of it uses

    private static boolean isIn(int value, int least, int greatest) {
        return value >= least && value <= greatest;
    }

    private static boolean isInSet(int member, int set) {
        return (set >> member & 1) == 1;
    }

    private static int asNumber(boolean holds) {
        return holds ? 1 : 0;
    }

    /** NONE is no error: print() answers it where nothing stood before. */
    private static boolean isError(int result) {
        return isIn(result, CAPACITY_EXCEEDED, INVALID_ARGUMENT);
    }

    private static int cellAt(int row, int column) {
        return row * CELLS_A_ROW + column;
    }

    private static int placeOfSide(int cell, int side) {
        return cell * 2 + side;
    }

    /** A sheet of paper with what is printed on it. */
    private static final class Paper {
        int rows = 0;
        int columns = 0;
        private final int[] numbers = new int[MAX_SIDES];
        private final int[] turns = new int[MAX_SIDES];

        void copyFrom(Paper other) {
            rows = other.rows;
            columns = other.columns;
            System.arraycopy(other.numbers, 0, numbers, 0, MAX_SIDES);
            System.arraycopy(other.turns, 0, turns, 0, MAX_SIDES);
        }

        void renew(int newRows, int newColumns) {
            rows = newRows;
            columns = newColumns;
            Arrays.fill(numbers, NONE);
            Arrays.fill(turns, 0);
        }

        int cells() {
            return rows * columns;
        }

        boolean hasSide(int row, int column, int side) {
            return isIn(row, 0, rows - 1) && isIn(column, 0, columns - 1) && isIn(side, 0, 1);
        }

        int numberAt(int place) {
            return isIn(place, 0, MAX_SIDES - 1) ? numbers[place] : NONE;
        }

        int turnAt(int place) {
            return isIn(place, 0, MAX_SIDES - 1) ? turns[place] : 0;
        }

        /** Answers how many sides have become another one, 1 or 0. */
        int stamp(int place, int number, int turn) {
            if (!isIn(place, 0, MAX_SIDES - 1) || numbers[place] == number && turns[place] == turn) {
                return 0;
            }
            numbers[place] = number;
            turns[place] = turn;
            return 1;
        }
    }

    /** What a sheet has become by folds: the layers of its places, place by place, each from the top. */
    private static final class Leaves {
        private static final int CELL = 15;
        private static final int MIRRORED = 16;
        private static final int UPSIDE_DOWN = 32;

        private int sheetRows = 1;
        private int sheetColumns = 1;
        private int rows = 1;
        private int columns = 1;
        int folds = 0;
        int foldCount = 0;
        private final int[] layers = new int[MAX_CELLS];
        private final int[] folded = new int[MAX_CELLS];

        void copyFrom(Leaves other) {
            sheetRows = other.sheetRows;
            sheetColumns = other.sheetColumns;
            rows = other.rows;
            columns = other.columns;
            folds = other.folds;
            foldCount = other.foldCount;
            System.arraycopy(other.layers, 0, layers, 0, MAX_CELLS);
        }

        void spread(int newRows, int newColumns) {
            sheetRows = newRows;
            sheetColumns = newColumns;
            rows = newRows;
            columns = newColumns;
            folds = 0;
            foldCount = 0;
            for (int place = 0; place < MAX_CELLS && place < rows * columns; place++) {
                layers[place] = columns < 1 ? 0 : cellAt(place / columns, place % columns);
            }
        }

        int places() {
            return rows * columns;
        }

        int depth() {
            return 1 << foldCount;
        }

        boolean isBooklet() {
            return rows == 1 && columns == 1;
        }

        int lastPage() {
            return depth() * 2 - 1;
        }

        boolean canFold(int fold) {
            if (fold == LEFT_OVER || fold == RIGHT_OVER) {
                return columns > 1;
            }
            return (fold == UPPER_OVER || fold == LOWER_OVER) && rows > 1;
        }

        /** The fold is one that can be done. */
        void lay(int fold) {
            boolean sideways = fold == LEFT_OVER || fold == RIGHT_OVER;
            int newRows = sideways ? rows : rows / 2;
            int newColumns = sideways ? columns / 2 : columns;
            for (int place = 0; newColumns > 0 && place < newRows * newColumns; place++) {
                int stayRow = place / newColumns + (fold == UPPER_OVER ? newRows : 0);
                int stayColumn = place % newColumns + (fold == LEFT_OVER ? newColumns : 0);
                int moveRow = sideways ? stayRow : rows - 1 - stayRow;
                int moveColumn = sideways ? columns - 1 - stayColumn : stayColumn;
                pile(place, moveRow * columns + moveColumn, sideways ? MIRRORED : UPSIDE_DOWN,
                        stayRow * columns + stayColumn);
            }
            System.arraycopy(folded, 0, layers, 0, MAX_CELLS);
            rows = newRows;
            columns = newColumns;
            folds = folds * 10 + fold;
            foldCount++;
        }

        /** Piles the layers of one place, turned over, upon those of another. */
        private void pile(int to, int moved, int turn, int staying) {
            int depth = depth();
            for (int i = 0; i < depth; i++) {
                int over = to * depth * 2 + i;
                if (over >= 0 && over + depth < MAX_CELLS) {
                    folded[over] = at((moved + 1) * depth - 1 - i) ^ turn;
                    folded[over + depth] = at(staying * depth + i);
                }
            }
        }

        /** Spreads the sheet and folds it as far as can be done; answers whether all of this makes a booklet. */
        boolean foldBy(int newRows, int newColumns, int row) {
            spread(newRows, newColumns);
            if (!isIn(row, 0, GREATEST_ROW_OF_FOLDS)) {
                return false;
            }
            for (int unit = 1000; unit > 0; unit /= 10) {
                if (row >= unit) {
                    int fold = row / unit % 10;
                    if (!canFold(fold)) {
                        return false;
                    }
                    lay(fold);
                }
            }
            return isBooklet();
        }

        private int at(int index) {
            return index >= 0 && index < MAX_CELLS ? layers[index] : 0;
        }

        int rowAt(int index) {
            return rowOf(at(index));
        }

        int columnAt(int index) {
            return columnOf(at(index));
        }

        private static int rowOf(int layer) {
            return (layer & CELL) / CELLS_A_ROW;
        }

        private static int columnOf(int layer) {
            return (layer & CELL) % CELLS_A_ROW;
        }

        boolean isMirrored(int index) {
            return (at(index) & MIRRORED) != 0;
        }

        boolean isUpsideDown(int index) {
            return (at(index) & UPSIDE_DOWN) != 0;
        }

        int sideUpAt(int index) {
            return sideUp(at(index));
        }

        int sideOfPage(int page) {
            return sideUpAt(page / 2) ^ (page & 1);
        }

        /** Where on the paper the page's side stands. */
        int paperPlace(int page) {
            int leaf = at(page / 2);
            return placeOfSide(leaf & CELL, sideUp(leaf) ^ (page & 1));
        }

        private static int sideUp(int layer) {
            boolean mirrored = (layer & MIRRORED) != 0;
            boolean upsideDown = (layer & UPSIDE_DOWN) != 0;
            return mirrored == upsideDown ? 0 : 1;
        }

        /** The set with the edge along which two leaves hang together, or an empty one. */
        int edgesBetween(int one, int other) {
            int first = at(one);
            int second = at(other);
            int rowsOn = rowOf(second) - rowOf(first);
            int columnsOn = columnOf(second) - columnOf(first);
            if (rowsOn == 0 && columnsOn == 1) {
                return 1 << edgeToRight(first);
            }
            if (rowsOn == 0 && columnsOn == -1) {
                return 1 << edgeToRight(second);
            }
            if (columnsOn == 0 && rowsOn == 1) {
                return 1 << edgeBelow(first);
            }
            if (columnsOn == 0 && rowsOn == -1) {
                return 1 << edgeBelow(second);
            }
            return 0;
        }

        private static int edgeToRight(int layer) {
            return (layer & MIRRORED) != 0 ? LEFT : RIGHT;
        }

        private static int edgeBelow(int layer) {
            return (layer & UPSIDE_DOWN) != 0 ? TOP : BOTTOM;
        }

        int pairsAlong(int edge) {
            int pairs = 0;
            for (int leaf = 0; leaf < depth(); leaf++) {
                if (columnAt(leaf) + 1 < sheetColumns && edgeToRight(at(leaf)) == edge) {
                    pairs++;
                }
                if (rowAt(leaf) + 1 < sheetRows && edgeBelow(at(leaf)) == edge) {
                    pairs++;
                }
            }
            return pairs;
        }
    }

    /** The sights that are kept: pages with the numbers seen on them. */
    private static final class Sights {
        private final int[] pages = new int[MAX_SIGHTS];
        private final int[] numbers = new int[MAX_SIGHTS];
        private final int[] turns = new int[MAX_SIGHTS];
        int size = 0;

        void copyFrom(Sights other) {
            size = other.size;
            System.arraycopy(other.pages, 0, pages, 0, MAX_SIGHTS);
            System.arraycopy(other.numbers, 0, numbers, 0, MAX_SIGHTS);
            System.arraycopy(other.turns, 0, turns, 0, MAX_SIGHTS);
        }

        int dropAll() {
            int previous = size;
            size = 0;
            return previous;
        }

        int put(int page, int number, int turn) {
            if (!isIn(size, 0, MAX_SIGHTS - 1)) {
                return CAPACITY_EXCEEDED;
            }
            pages[size] = page;
            numbers[size] = number;
            turns[size] = turn;
            size++;
            return size;
        }
    }

    /** The notes, by their numbers. */
    private static final class Notes {
        static final int FIELDS = 4;
        private static final int SUBJECT = 0;
        private static final int URGENCY = 1;
        private static final int LINES_LONG = 2;
        private static final int WHOLE = 3;

        private final int[] fields = new int[MAX_NOTES * FIELDS];
        int size = 0;

        void copyFrom(Notes other) {
            size = other.size;
            System.arraycopy(other.fields, 0, fields, 0, MAX_NOTES * FIELDS);
        }

        boolean has(int note) {
            return isIn(note, 0, size - 1);
        }

        int put(int subject, int urgency, int lines, int whole) {
            if (!isIn(subject, 0, SUBJECTS - 1) || !isIn(urgency, 0, 9)
                    || !isIn(lines, 1, MAX_NOTE_LINES) || !isIn(whole, 0, 1)) {
                return INVALID_ARGUMENT;
            }
            if (!isIn(size, 0, MAX_NOTES - 1)) {
                return CAPACITY_EXCEEDED;
            }
            fields[size * FIELDS + SUBJECT] = subject;
            fields[size * FIELDS + URGENCY] = urgency;
            fields[size * FIELDS + LINES_LONG] = lines;
            fields[size * FIELDS + WHOLE] = whole;
            size++;
            return size - 1;
        }

        int drop(int note) {
            if (!has(note)) {
                return INVALID_ARGUMENT;
            }
            for (int i = note * FIELDS; i + FIELDS < size * FIELDS && i + FIELDS < fields.length; i++) {
                fields[i] = fields[i + FIELDS];
            }
            size--;
            return size;
        }

        int get(int note, int field) {
            int at = note * FIELDS + field;
            return isIn(at, 0, fields.length - 1) ? fields[at] : 0;
        }

        int subjectOf(int note) {
            return get(note, SUBJECT);
        }

        int linesOf(int note) {
            return get(note, LINES_LONG);
        }

        boolean isWhole(int note) {
            return get(note, WHOLE) == 1;
        }

        /** Whether one note is laid out before another one. */
        boolean comesBefore(int one, int other) {
            if (get(one, URGENCY) != get(other, URGENCY)) {
                return get(one, URGENCY) > get(other, URGENCY);
            }
            if (subjectOf(one) != subjectOf(other)) {
                return subjectOf(one) < subjectOf(other);
            }
            return one < other;
        }
    }

    /** All that a snapshot keeps. */
    private static final class Desk {
        final Paper paper = new Paper();
        final Leaves leaves = new Leaves();
        final Sights sights = new Sights();
        final Notes notes = new Notes();
        private final int[] efforts = new int[EFFORTS];
        int spine = 0;
        int cuts = 0;
        int staples = 0;
        int legs = 4;
        int lines = 5;

        Desk() {
            paper.renew(2, 4);
            leaves.spread(2, 4);
        }

        void copyFrom(Desk other) {
            paper.copyFrom(other.paper);
            leaves.copyFrom(other.leaves);
            sights.copyFrom(other.sights);
            notes.copyFrom(other.notes);
            System.arraycopy(other.efforts, 0, efforts, 0, EFFORTS);
            spine = other.spine;
            cuts = other.cuts;
            staples = other.staples;
            legs = other.legs;
            lines = other.lines;
        }

        private boolean isFixed() {
            return cuts != 0 || staples != 0;
        }

        private boolean isOpenAndFree() {
            return leaves.foldCount == 0 && !isFixed();
        }

        int effortOf(int kind) {
            return isIn(kind, 0, EFFORTS - 1) ? efforts[kind] : 0;
        }

        private static boolean isLength(int cells) {
            return cells == 1 || cells == 2 || cells == 4;
        }

        int takeSheet(int rows, int columns) {
            if (!isLength(rows) || !isLength(columns)) {
                return INVALID_ARGUMENT;
            }
            paper.renew(rows, columns);
            leaves.spread(rows, columns);
            sights.dropAll();
            cuts = 0;
            staples = 0;
            return rows * columns;
        }

        int foldOnce(int fold) {
            if (!isIn(fold, LEFT_OVER, LOWER_OVER)) {
                return INVALID_ARGUMENT;
            }
            if (isFixed() || !leaves.canFold(fold)) {
                return ILLEGAL_STATE;
            }
            efforts[FOLD_EFFORT] += leaves.depth();
            leaves.lay(fold);
            return leaves.depth();
        }

        int foldBack() {
            if (isFixed() || leaves.foldCount == 0) {
                return ILLEGAL_STATE;
            }
            efforts[FOLD_EFFORT]++;
            leaves.foldBy(paper.rows, paper.columns, leaves.folds / 10);
            return leaves.foldCount;
        }

        int moveSpine(int newSpine) {
            if (!isIn(newSpine, 0, SPINE_TOP)) {
                return INVALID_ARGUMENT;
            }
            if (staples != 0) {
                return ILLEGAL_STATE;
            }
            int previous = spine;
            spine = newSpine;
            return previous;
        }

        int printSide(int row, int column, int side, int number, int turned) {
            if (!paper.hasSide(row, column, side) || !isIn(number, -1, MAX_SIDES - 1) || !isIn(turned, 0, 1)) {
                return INVALID_ARGUMENT;
            }
            if (!isOpenAndFree()) {
                return ILLEGAL_STATE;
            }
            int place = placeOfSide(cellAt(row, column), side);
            int previous = paper.numberAt(place);
            efforts[PRINT_EFFORT] += number == -1 ? paper.stamp(place, NONE, 0) : paper.stamp(place, number, turned);
            return previous;
        }

        int printSheet(Leaves other, int folds) {
            if (!other.foldBy(paper.rows, paper.columns, folds)) {
                return INVALID_ARGUMENT;
            }
            if (!isOpenAndFree()) {
                return ILLEGAL_STATE;
            }
            int changed = 0;
            for (int page = 0; page <= other.lastPage(); page++) {
                changed += paper.stamp(other.paperPlace(page), page, turnForUpright(other, page));
            }
            efforts[PRINT_EFFORT] += changed;
            return changed;
        }

        int cutAlong(int edge) {
            if (!isIn(edge, 0, EDGES - 1)) {
                return INVALID_ARGUMENT;
            }
            if (!leaves.isBooklet() || isInSet(edge, cuts)) {
                return ILLEGAL_STATE;
            }
            cuts |= 1 << edge;
            efforts[CUT_EFFORT] += leaves.depth();
            return leaves.pairsAlong(edge);
        }

        int setStaple(int place) {
            if (!isIn(place, 0, STAPLE_PLACES - 1)) {
                return INVALID_ARGUMENT;
            }
            if (!leaves.isBooklet() || isInSet(place, staples)) {
                return ILLEGAL_STATE;
            }
            if (Integer.bitCount(staples) >= MAX_STAPLES) {
                return CAPACITY_EXCEEDED;
            }
            staples |= 1 << place;
            efforts[STAPLE_EFFORT] += 3;
            return Math.min(legs, leaves.depth());
        }

        int drawStaple(int place) {
            if (!isIn(place, 0, STAPLE_PLACES - 1)) {
                return INVALID_ARGUMENT;
            }
            if (!isInSet(place, staples)) {
                return ILLEGAL_STATE;
            }
            staples &= ~(1 << place);
            efforts[STAPLE_EFFORT]++;
            return Integer.bitCount(staples);
        }

        int changeLegs(int newLegs) {
            if (!isIn(newLegs, 1, MAX_LEGS)) {
                return INVALID_ARGUMENT;
            }
            int previous = legs;
            legs = newLegs;
            return previous;
        }

        int changeLines(int newLines) {
            if (!isIn(newLines, 1, MAX_LINES)) {
                return INVALID_ARGUMENT;
            }
            int previous = lines;
            lines = newLines;
            return previous;
        }

        int keepSight(int page, int number, int turn) {
            if (!isIn(page, 0, paper.cells() * 2 - 1) || !isIn(number, 0, MAX_SIDES - 1) || !isIn(turn, 0, 1)) {
                return INVALID_ARGUMENT;
            }
            return sights.put(page, number, turn);
        }

        int numberOn(Leaves booklet, int page) {
            return paper.numberAt(booklet.paperPlace(page));
        }

        /** How a number is to be printed so that it is seen upright on a page. */
        private int turnForUpright(Leaves booklet, int page) {
            int bySpine = spine == SPINE_TOP ? page & 1 : 0;
            return asNumber(booklet.isUpsideDown(page / 2)) ^ bySpine;
        }

        boolean isUpright(Leaves booklet, int page) {
            return paper.turnAt(booklet.paperPlace(page)) == turnForUpright(booklet, page);
        }

        /** The set of edges along which leaves shut an opening. */
        int shutEdges(int opening) {
            int edges = 0;
            for (int above = 0; above < opening && above < leaves.depth(); above++) {
                for (int below = opening; below < leaves.depth(); below++) {
                    edges |= leaves.edgesBetween(above, below);
                }
            }
            return edges & ~cuts & ~(1 << spineEdge());
        }

        private int spineEdge() {
            return spine == SPINE_TOP ? TOP : LEFT;
        }

        int linesAt(int opening) {
            if (shutEdges(opening) != 0) {
                return 0;
            }
            return opening == 0 || opening == leaves.depth() ? lines : lines * 2;
        }

        boolean isHidden(int page) {
            return shutEdges((page + 1) / 2) != 0;
        }

        /** The first reason that applies, 0 if the page reads. */
        int whyNotRead(int page) {
            if (isHidden(page)) {
                return 1;
            }
            int number = numberOn(leaves, page);
            if (number == NONE) {
                return 2;
            }
            if (number != page) {
                return 3;
            }
            return isUpright(leaves, page) ? 0 : 4;
        }

        int countPieces() {
            int count = 0;
            int counted = 0;
            for (int leaf = 0; leaf < leaves.depth(); leaf++) {
                if (!isInSet(leaf, counted)) {
                    counted |= pieceWith(leaf);
                    count++;
                }
            }
            return count;
        }

        /** The set of leaves that are in one piece with a leaf. */
        private int pieceWith(int leaf) {
            int piece = 1 << leaf;
            int before = 0;
            // Each round adds a leaf, but the last one.
            for (int round = 0; round <= MAX_CELLS && piece != before; round++) {
                before = piece;
                for (int one = 0; one < leaves.depth(); one++) {
                    piece |= isInSet(one, piece) ? heldWith(one) : 0;
                }
            }
            return piece;
        }

        /** The set of leaves that are directly held together with a leaf. */
        private int heldWith(int leaf) {
            int held = 0;
            for (int other = 0; other < leaves.depth(); other++) {
                boolean stapled = staples != 0 && leaf < legs && other < legs;
                if (stapled || (leaves.edgesBetween(leaf, other) & ~cuts) != 0) {
                    held |= 1 << other;
                }
            }
            return held;
        }

        boolean showsAllSights(Leaves other) {
            for (int i = 0; i < sights.size && i < MAX_SIGHTS; i++) {
                int page = sights.pages[i];
                boolean upright = sights.turns[i] == 0;
                if (numberOn(other, page) != sights.numbers[i] || isUpright(other, page) != upright) {
                    return false;
                }
            }
            return true;
        }

        int pagesInOrder(Leaves other) {
            for (int page = 0; page <= other.lastPage(); page++) {
                if (numberOn(other, page) != page || !isUpright(other, page)) {
                    return page;
                }
            }
            return other.lastPage() + 1;
        }

        int edgesToCut(Leaves other) {
            int edges = 0;
            for (int edge = 0; edge < EDGES; edge++) {
                if (edge != spineEdge() && other.pairsAlong(edge) > 0) {
                    edges |= 1 << edge;
                }
            }
            return edges;
        }
    }

    /** Everything but the text and the history. */
    private static final class State {
        final Desk desk = new Desk();
        private final Desk[] slots = {new Desk(), new Desk()};
        int filled = 0;

        void copyFrom(State other) {
            desk.copyFrom(other.desk);
            filled = other.filled;
            for (int slot = 0; slot < SLOTS; slot++) {
                if (isInSet(slot, filled)) {
                    slots[slot].copyFrom(other.slots[slot]);
                }
            }
        }

        int fillSlot(int slot) {
            if (!isIn(slot, 0, SLOTS - 1)) {
                return INVALID_ARGUMENT;
            }
            slots[slot].copyFrom(desk);
            filled |= 1 << slot;
            return desk.leaves.foldCount;
        }

        int useSlot(int slot) {
            if (!isIn(slot, 0, SLOTS - 1)) {
                return INVALID_ARGUMENT;
            }
            if (!isInSet(slot, filled)) {
                return ILLEGAL_STATE;
            }
            desk.copyFrom(slots[slot]);
            return desk.leaves.foldCount;
        }
    }

    /** The latest states, the oldest first, and behind them the one that may come to them. */
    private static final class History {
        private final State[] states = {
            new State(), new State(), new State(), new State(), new State(), new State()
        };
        int size = 0;

        /** Keeps a state as it is before a call, so that the call can still be recorded or taken back. */
        void keep(State now) {
            if (isIn(size, 0, MAX_STATES)) {
                states[size].copyFrom(now);
            }
        }

        void bringBack(State now) {
            if (isIn(size, 0, MAX_STATES)) {
                now.copyFrom(states[size]);
            }
        }

        /** Takes the state that is kept into the history unless the call failed; answers the call's result. */
        int settle(int result) {
            if (isError(result)) {
                return result;
            }
            if (size < MAX_STATES) {
                size++;
            } else {
                dropOldest();
            }
            return result;
        }

        private void dropOldest() {
            State oldest = states[0];
            for (int i = 0; i < MAX_STATES; i++) {
                states[i] = states[i + 1];
            }
            states[MAX_STATES] = oldest;
        }

        int goBack(State now) {
            if (size <= 0) {
                return ILLEGAL_STATE;
            }
            size--;
            bringBack(now);
            return size;
        }
    }

    /** The lines of a booklet's pages, and the lines that the notes take of them. */
    private static final class Layout {
        private final int[] order = new int[MAX_NOTES];
        private final int[] firstLines = new int[MAX_NOTES];
        /** The pages that are not hidden. */
        private final int[] pages = new int[MAX_SIDES];
        private int pageCount = 0;
        /** The first line of each opening, and behind the last one the number of all lines. */
        private final int[] starts = new int[MAX_CELLS + 2];
        private int openings = 0;
        private int lines = 1;

        /** The desk has a booklet. */
        void arrange(Desk desk) {
            lines = desk.lines;
            countLines(desk);
            listPages(desk);
            sort(desk.notes);
            int next = 0;
            for (int i = 0; i < desk.notes.size && i < MAX_NOTES; i++) {
                int note = order[i];
                int length = desk.notes.linesOf(note);
                int first = desk.notes.isWhole(note) ? roomForWhole(next, length) : roomFor(next, length);
                keepFirstLine(note, first);
                next = first == NONE ? next : first + length;
            }
        }

        private void countLines(Desk desk) {
            openings = Math.min(desk.leaves.depth(), MAX_CELLS) + 1;
            starts[0] = 0;
            for (int opening = 0; opening < openings; opening++) {
                starts[opening + 1] = starts[opening] + desk.linesAt(opening);
            }
        }

        private void listPages(Desk desk) {
            pageCount = 0;
            for (int page = 0; page <= desk.leaves.lastPage() && pageCount < MAX_SIDES; page++) {
                if (linesOf((page + 1) / 2) > 0) {
                    pages[pageCount] = page;
                    pageCount++;
                }
            }
        }

        private void sort(Notes notes) {
            for (int note = 0; note < notes.size && note < MAX_NOTES; note++) {
                int to = note;
                while (to > 0 && notes.comesBefore(note, order[to - 1])) {
                    order[to] = order[to - 1];
                    to--;
                }
                order[to] = note;
            }
        }

        private void keepFirstLine(int note, int line) {
            if (isIn(note, 0, MAX_NOTES - 1)) {
                firstLines[note] = line;
            }
        }

        private int linesOf(int opening) {
            return isIn(opening, 0, openings - 1) ? starts[opening + 1] - starts[opening] : 0;
        }

        private int roomFor(int next, int length) {
            return next + length <= starts[openings] ? next : NONE;
        }

        private int roomForWhole(int next, int length) {
            for (int opening = 0; opening < openings; opening++) {
                // An opening that ends before the next line is none in which the note could begin.
                if (starts[opening + 1] > next) {
                    int first = Math.max(next, starts[opening]);
                    if (first + length <= starts[opening + 1]) {
                        return first;
                    }
                }
            }
            return NONE;
        }

        int firstLineOf(int note) {
            return isIn(note, 0, MAX_NOTES - 1) ? firstLines[note] : NONE;
        }

        int pageOfLine(int line) {
            if (lines < 1 || line < 0 || line / lines >= pageCount) {
                return NONE;
            }
            return pages[line / lines];
        }

        int lineOnPage(int line) {
            return lines < 1 ? 0 : line % lines;
        }

        /** The first line of a subject's notes that have room, NONE if there is none. */
        int firstLineAbout(int subject, Notes notes) {
            int first = NONE;
            for (int note = 0; note < notes.size && note < MAX_NOTES; note++) {
                int line = firstLines[note];
                if (notes.subjectOf(note) == subject && line != NONE && (first == NONE || line < first)) {
                    first = line;
                }
            }
            return first;
        }

        int takenOn(int page, Notes notes) {
            int taken = 0;
            for (int note = 0; note < notes.size && note < MAX_NOTES; note++) {
                int first = firstLines[note];
                for (int i = 0; first != NONE && i < notes.linesOf(note); i++) {
                    taken += asNumber(pageOfLine(first + i) == page);
                }
            }
            return taken;
        }
    }

    /** Reads a text token by token. */
    private static final class Reader {
        private final int[] text = new int[MAX_TEXT];
        private int length = 0;
        /** The offset of the token's first character, or the text's length if there is none any more. */
        int tokenStart = 0;
        private int tokenEnd = 0;

        void start(int[] newText, int newLength) {
            length = Math.max(0, Math.min(newLength, Math.min(newText.length, MAX_TEXT)));
            System.arraycopy(newText, 0, text, 0, length);
            tokenEnd = 0;
            advance();
        }

        boolean hasToken() {
            return tokenStart < length;
        }

        /** Goes on to the next token. */
        void advance() {
            tokenStart = tokenEnd;
            while (tokenStart < length && at(tokenStart) == ' ') {
                tokenStart++;
            }
            tokenEnd = Math.min(tokenStart + 1, length);
            while (tokenEnd < length && isOneRun(at(tokenStart), at(tokenEnd))) {
                tokenEnd++;
            }
        }

        private static boolean isOneRun(int one, int other) {
            return isLetter(one) && isLetter(other) || isDigit(one) && isDigit(other);
        }

        private static boolean isLetter(int character) {
            return character >= 'a' && character <= 'z';
        }

        private static boolean isDigit(int character) {
            return character >= '0' && character <= '9';
        }

        private int at(int place) {
            return isIn(place, 0, MAX_TEXT - 1) ? text[place] : 0;
        }

        boolean isWord(String word) {
            if (word.length() != tokenEnd - tokenStart) {
                return false;
            }
            for (int i = 0; i < word.length(); i++) {
                if (at(tokenStart + i) != word.charAt(i)) {
                    return false;
                }
            }
            return true;
        }

        boolean isCharacter(int character) {
            return hasToken() && at(tokenStart) == character;
        }

        boolean isNumber() {
            int digits = tokenEnd - tokenStart;
            boolean leads = digits == 1 || at(tokenStart) != '0';
            return isIn(digits, 1, 4) && isDigit(at(tokenStart)) && leads;
        }

        int numberValue() {
            int value = 0;
            for (int i = tokenStart; i < tokenEnd; i++) {
                value = value * 10 + at(i) - '0';
            }
            return value;
        }
    }
}
