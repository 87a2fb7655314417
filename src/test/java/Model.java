import java.util.ArrayDeque;
import java.util.ArrayList;
import java.util.Arrays;
import java.util.Collections;
import java.util.Comparator;
import java.util.Deque;
import java.util.List;
import java.util.Map;
import java.util.Set;
import java.util.TreeMap;
import java.util.TreeSet;
import java.util.function.Function;
import java.util.regex.Matcher;
import java.util.regex.Pattern;

/**
 * The document once more, in another way than the program: cells that wander in space, sets and lists
 * that are built anew for each question, and failures as exceptions.
 */
final class Model {
    static final class Failure extends RuntimeException {
        private static final long serialVersionUID = 1L;
        final int code;

        Failure(int code) {
            super("failure " + code, null, false, false);
            this.code = code;
        }
    }

    private static Failure invalid() {
        return new Failure(-1);
    }

    private static Failure illegal() {
        return new Failure(-2);
    }

    private static void check(boolean valid) {
        if (!valid) {
            throw invalid();
        }
    }

    private static void allow(boolean possible) {
        if (!possible) {
            throw illegal();
        }
    }

    private static boolean in(int value, int least, int greatest) {
        return least <= value && value <= greatest;
    }

    /** A cell in space: its place, how many layers lie below it, and how often it was turned over. */
    record Cell(int row, int column, int x, int y, int below, int sideways, int upDown) {
        boolean mirrored() {
            return sideways % 2 == 1;
        }

        boolean upsideDown() {
            return upDown % 2 == 1;
        }

        int up() {
            return (sideways + upDown) % 2;
        }
    }

    record Print(int number, boolean turned) { }

    record Sight(int page, int number, boolean turned) { }

    record Note(int subject, int urgency, int lines, boolean whole) { }

    /** A row of folds done: the cells in space, and the places that are left. */
    record Folded(List<Cell> cells, int width, int height, int depth) {
        boolean booklet() {
            return width == 1 && height == 1;
        }

        Folded by(int fold) {
            boolean sideways = fold <= 2;
            int size = sideways ? width : height;
            if (size == 1) {
                return null;
            }
            boolean lowMoves = fold == 1 || fold == 3;
            List<Cell> moved = new ArrayList<>();
            for (Cell c : cells) {
                int at = sideways ? c.x : c.y;
                boolean isLow = at < size / 2;
                boolean moves = isLow == lowMoves;
                int to = moves ? size - 1 - at : at;
                int kept = lowMoves ? to - size / 2 : to;
                int below = moves ? 2 * depth - 1 - c.below : c.below;
                int turn = moves ? 1 : 0;
                moved.add(sideways
                        ? new Cell(c.row, c.column, kept, c.y, below, c.sideways + turn, c.upDown)
                        : new Cell(c.row, c.column, c.x, kept, below, c.sideways, c.upDown + turn));
            }
            return new Folded(moved, sideways ? width / 2 : width, sideways ? height : height / 2, depth * 2);
        }

        Cell at(int place, int layer) {
            for (Cell c : cells) {
                if (c.y * width + c.x == place && c.below == depth - 1 - layer) {
                    return c;
                }
            }
            throw invalid();
        }

        Cell leaf(int leaf) {
            return at(0, leaf);
        }
    }

    /** Two leaves, the upper one first, and the edge along which they hang together. */
    record Bond(int upper, int lower, int edge) { }

    static final class Desk {
        int rows = 2;
        int columns = 4;
        Map<List<Integer>, Print> prints = Map.of();
        List<Integer> folds = List.of();
        int spine = 0;
        Set<Integer> cuts = Set.of();
        Set<Integer> staples = Set.of();
        int legs = 4;
        List<Sight> sights = List.of();
        List<Note> notes = List.of();
        int lines = 5;
        int[] effort = new int[4];

        Desk copy() {
            Desk copy = new Desk();
            copy.rows = rows;
            copy.columns = columns;
            copy.prints = prints;
            copy.folds = folds;
            copy.spine = spine;
            copy.cuts = cuts;
            copy.staples = staples;
            copy.legs = legs;
            copy.sights = sights;
            copy.notes = notes;
            copy.lines = lines;
            copy.effort = effort.clone();
            return copy;
        }
    }

    record Whole(Desk desk, Desk slot0, Desk slot1) { }

    private Desk d = new Desk();
    private Desk[] slots = new Desk[2];
    private final Deque<Whole> history = new ArrayDeque<>();
    private String text = "";

    // ---- folded sheets

    private Folded open() {
        List<Cell> cells = new ArrayList<>();
        for (int r = 0; r < d.rows; r++) {
            for (int c = 0; c < d.columns; c++) {
                cells.add(new Cell(r, c, c, r, 0, 0, 0));
            }
        }
        return new Folded(cells, d.columns, d.rows, 1);
    }

    private Folded folded(List<Integer> folds) {
        Folded f = open();
        for (int fold : folds) {
            f = f == null ? null : f.by(fold);
        }
        return f;
    }

    private Folded sheet() {
        return folded(d.folds);
    }

    private Folded booklet() {
        Folded f = sheet();
        allow(f.booklet());
        return f;
    }

    private static int number(List<Integer> folds) {
        int n = 0;
        for (int fold : folds) {
            n = 10 * n + fold;
        }
        return n;
    }

    /** All rows of folds that make a booklet, by their numbers. */
    private TreeMap<Integer, Folded> allRows() {
        TreeMap<Integer, Folded> rows = new TreeMap<>();
        collect(open(), 0, rows);
        return rows;
    }

    private static void collect(Folded f, int number, Map<Integer, Folded> rows) {
        if (f.booklet()) {
            rows.put(number, f);
            return;
        }
        for (int fold = 1; fold <= 4; fold++) {
            Folded next = f.by(fold);
            if (next != null) {
                collect(next, number * 10 + fold, rows);
            }
        }
    }

    private Folded byRow(int row) {
        Folded f = allRows().get(row);
        check(f != null);
        return f;
    }

    private static List<Integer> key(Folded f, int page) {
        Cell c = f.leaf(page / 2);
        return List.of(c.row, c.column, page % 2 == 0 ? c.up() : 1 - c.up());
    }

    private Print on(Folded f, int page) {
        return d.prints.get(key(f, page));
    }

    private boolean upright(Folded f, int page, boolean turned) {
        int held = 0;
        held += f.leaf(page / 2).upsideDown() ? 1 : 0;
        held += turned ? 1 : 0;
        held += d.spine == 1 && page % 2 == 1 ? 1 : 0;
        return held % 2 == 0;
    }

    private int ownPages(Folded f) {
        int page = 0;
        while (page < 2 * f.depth) {
            Print p = on(f, page);
            if (p == null || p.number != page || !upright(f, page, p.turned)) {
                break;
            }
            page++;
        }
        return page;
    }

    private static List<Bond> bonds(Folded f) {
        List<Bond> bonds = new ArrayList<>();
        for (int i = 0; i < f.depth; i++) {
            for (int j = 0; j < f.depth; j++) {
                Cell a = f.leaf(i);
                Cell b = f.leaf(j);
                if (a.row == b.row && a.column + 1 == b.column) {
                    bonds.add(new Bond(Math.min(i, j), Math.max(i, j), a.mirrored() ? 0 : 1));
                }
                if (a.column == b.column && a.row + 1 == b.row) {
                    bonds.add(new Bond(Math.min(i, j), Math.max(i, j), a.upsideDown() ? 2 : 3));
                }
            }
        }
        return bonds;
    }

    private List<Bond> uncut(Folded f) {
        List<Bond> bonds = bonds(f);
        bonds.removeIf(b -> d.cuts.contains(b.edge));
        return bonds;
    }

    private static int mask(Set<Integer> set) {
        int mask = 0;
        for (int k : set) {
            mask |= 1 << k;
        }
        return mask;
    }

    private Set<Integer> shut(Folded f, int opening) {
        Set<Integer> edges = new TreeSet<>();
        for (Bond b : uncut(f)) {
            if (b.upper < opening && opening <= b.lower && b.edge != 2 * d.spine) {
                edges.add(b.edge);
            }
        }
        return edges;
    }

    private Set<Integer> toCut(Folded f) {
        Set<Integer> edges = new TreeSet<>();
        for (Bond b : bonds(f)) {
            edges.add(b.edge);
        }
        edges.remove(2 * d.spine);
        return edges;
    }

    private int why(Folded f, int page) {
        if (!shut(f, (page + 1) / 2).isEmpty()) {
            return 1;
        }
        Print p = on(f, page);
        if (p == null) {
            return 2;
        }
        return p.number != page ? 3 : upright(f, page, p.turned) ? 0 : 4;
    }

    // ---- notes on lines

    record Line(int page, int onPage, int opening) { }

    private List<Line> allLines(Folded f) {
        List<Line> lines = new ArrayList<>();
        for (int page = 0; page < 2 * f.depth; page++) {
            for (int i = 0; i < d.lines && shut(f, (page + 1) / 2).isEmpty(); i++) {
                lines.add(new Line(page, i, (page + 1) / 2));
            }
        }
        return lines;
    }

    /** The lines that each note takes, none for a note that has no room. */
    private Map<Integer, List<Line>> laidOut(Folded f) {
        List<Line> left = allLines(f);
        List<Integer> order = new ArrayList<>();
        for (int i = 0; i < d.notes.size(); i++) {
            order.add(i);
        }
        order.sort(Comparator.comparing((Integer i) -> -d.notes.get(i).urgency)
                .thenComparing(i -> d.notes.get(i).subject).thenComparing(i -> i));
        Map<Integer, List<Line>> taken = new TreeMap<>();
        for (int i : order) {
            Note note = d.notes.get(i);
            int start = note.whole ? startOfWhole(left, note.lines) : left.size() >= note.lines ? 0 : -1;
            if (start < 0) {
                taken.put(i, List.of());
            } else {
                taken.put(i, new ArrayList<>(left.subList(start, start + note.lines)));
                left = new ArrayList<>(left.subList(start + note.lines, left.size()));
            }
        }
        return taken;
    }

    private static int startOfWhole(List<Line> left, int many) {
        for (int start = 0; start + many <= left.size(); start++) {
            boolean begins = start == 0 || left.get(start).opening != left.get(start - 1).opening;
            if (begins && left.get(start).opening == left.get(start + many - 1).opening) {
                return start;
            }
        }
        return -1;
    }

    // ---- calls

    /** Answers a call by its name. */
    int call(String name, int... a) {
        try {
            return answer(name, a);
        } catch (Failure failure) {
            return failure.code;
        }
    }

    private int answer(String name, int[] a) {
        switch (name) {
            case "undo": {
                allow(!history.isEmpty());
                Whole whole = history.removeLast();
                d = whole.desk.copy();
                slots = new Desk[] {whole.slot0, whole.slot1};
                return history.size();
            }
            case "append":
                check(in(a[0], 1, 255));
                if (text.length() == 120) {
                    throw new Failure(-3);
                }
                text += (char) a[0];
                return text.length();
            case "clearText": {
                int length = text.length();
                text = "";
                return length;
            }
            case "run": {
                Whole before = whole();
                try {
                    int commands = program();
                    record(before);
                    text = "";
                    return commands;
                } catch (Failure failure) {
                    d = before.desk;
                    throw failure;
                }
            }
            default:
                Integer looked = look(name, a);
                if (looked != null) {
                    return looked;
                }
                Whole before = whole();
                int result;
                try {
                    result = act(name, a);
                } catch (Failure failure) {
                    d = before.desk;
                    throw failure;
                }
                record(before);
                return result;
        }
    }

    private Whole whole() {
        return new Whole(d.copy(), slots[0], slots[1]);
    }

    private void record(Whole before) {
        history.addLast(before);
        while (history.size() > 5) {
            history.removeFirst();
        }
    }

    private static <T> List<T> with(List<T> list, T more) {
        List<T> longer = new ArrayList<>(list);
        longer.add(more);
        return Collections.unmodifiableList(longer);
    }

    private static Set<Integer> with(Set<Integer> set, int more) {
        Set<Integer> larger = new TreeSet<>(set);
        larger.add(more);
        return larger;
    }

    private boolean fixed() {
        return !d.cuts.isEmpty() || !d.staples.isEmpty();
    }

    private int stamp(List<Integer> key, Print print) {
        Map<List<Integer>, Print> prints = new java.util.HashMap<>(d.prints);
        Print old = print == null ? prints.remove(key) : prints.put(key, print);
        d.prints = prints;
        return java.util.Objects.equals(old, print) ? 0 : 1;
    }

    private int act(String name, int[] a) {
        switch (name) {
            case "setSheet": {
                Set<Integer> sizes = Set.of(1, 2, 4);
                check(sizes.contains(a[0]) && sizes.contains(a[1]));
                d.rows = a[0];
                d.columns = a[1];
                d.folds = List.of();
                d.prints = Map.of();
                d.cuts = Set.of();
                d.staples = Set.of();
                d.sights = List.of();
                return a[0] * a[1];
            }
            case "fold": {
                check(in(a[0], 1, 4));
                allow(!fixed() && sheet().by(a[0]) != null);
                d.effort[0] += sheet().depth;
                d.folds = with(d.folds, a[0]);
                return sheet().depth;
            }
            case "unfold":
                allow(!fixed() && !d.folds.isEmpty());
                d.effort[0] += 1;
                d.folds = d.folds.subList(0, d.folds.size() - 1);
                return d.folds.size();
            case "setSpine": {
                check(in(a[0], 0, 1));
                allow(d.staples.isEmpty());
                int old = d.spine;
                d.spine = a[0];
                return old;
            }
            case "print": {
                check(in(a[0], 0, d.rows - 1) && in(a[1], 0, d.columns - 1) && in(a[2], 0, 1));
                check(in(a[3], -1, 31) && in(a[4], 0, 1));
                allow(!fixed() && d.folds.isEmpty());
                List<Integer> key = List.of(a[0], a[1], a[2]);
                Print old = d.prints.get(key);
                d.effort[1] += stamp(key, a[3] < 0 ? null : new Print(a[3], a[4] == 1));
                return old == null ? -9 : old.number;
            }
            case "printAll": {
                Folded f = byRow(a[0]);
                allow(!fixed() && d.folds.isEmpty());
                int changed = 0;
                for (int page = 0; page < 2 * f.depth; page++) {
                    changed += stamp(key(f, page), new Print(page, !upright(f, page, false)));
                }
                d.effort[1] += changed;
                return changed;
            }
            default:
                return actOnBooklet(name, a);
        }
    }

    private int actOnBooklet(String name, int[] a) {
        switch (name) {
            case "cut": {
                check(in(a[0], 0, 3));
                Folded f = booklet();
                allow(!d.cuts.contains(a[0]));
                int pairs = along(f, a[0]);
                d.cuts = with(d.cuts, a[0]);
                d.effort[2] += f.depth;
                return pairs;
            }
            case "staple": {
                check(in(a[0], 0, 9));
                Folded f = booklet();
                allow(!d.staples.contains(a[0]));
                if (d.staples.size() == 3) {
                    throw new Failure(-3);
                }
                d.staples = with(d.staples, a[0]);
                d.effort[3] += 3;
                return Math.min(f.depth, d.legs);
            }
            case "unstaple": {
                check(in(a[0], 0, 9));
                allow(d.staples.contains(a[0]));
                Set<Integer> less = new TreeSet<>(d.staples);
                less.remove(a[0]);
                d.staples = less;
                d.effort[3] += 1;
                return less.size();
            }
            case "setLegs": {
                check(in(a[0], 1, 16));
                int old = d.legs;
                d.legs = a[0];
                return old;
            }
            default:
                return actOnNotes(name, a);
        }
    }

    private int actOnNotes(String name, int[] a) {
        switch (name) {
            case "see":
                check(in(a[0], 0, 2 * d.rows * d.columns - 1) && in(a[1], 0, 31) && in(a[2], 0, 1));
                if (d.sights.size() == 8) {
                    throw new Failure(-3);
                }
                d.sights = with(d.sights, new Sight(a[0], a[1], a[2] == 1));
                return d.sights.size();
            case "forget": {
                int many = d.sights.size();
                d.sights = List.of();
                return many;
            }
            case "addNote":
                check(in(a[0], 0, 99) && in(a[1], 0, 9) && in(a[2], 1, 20) && in(a[3], 0, 1));
                if (d.notes.size() == 12) {
                    throw new Failure(-3);
                }
                d.notes = with(d.notes, new Note(a[0], a[1], a[2], a[3] == 1));
                return d.notes.size() - 1;
            case "removeNote": {
                check(in(a[0], 0, d.notes.size() - 1));
                List<Note> fewer = new ArrayList<>(d.notes);
                fewer.remove(a[0]);
                d.notes = fewer;
                return fewer.size();
            }
            case "setLines": {
                check(in(a[0], 1, 9));
                int old = d.lines;
                d.lines = a[0];
                return old;
            }
            case "take":
                check(in(a[0], 0, 1));
                slots = slots.clone();
                slots[a[0]] = d.copy();
                return d.folds.size();
            case "restore":
                check(in(a[0], 0, 1));
                allow(slots[a[0]] != null);
                d = slots[a[0]].copy();
                return d.folds.size();
            default:
                throw new IllegalStateException(name);
        }
    }

    // ---- programs

    private static final Map<String, String> GRAMMAR = Map.of(
            "sheet", "NN;", "fold", "Nnnn;", "unfold", ";", "spine", "S;", "print", "N;", "cut", "E;",
            "staple", "N;", "note", "NNNw;", "lines", "N;");
    private static final List<String> EDGES = List.of("left", "right", "top", "bottom");

    private static boolean fits(char kind, String token) {
        switch (Character.toUpperCase(kind)) {
            case 'N':
                return token.matches("0|[1-9][0-9]{0,3}");
            case 'S':
                return token.equals("left") || token.equals("top");
            case 'E':
                return EDGES.contains(token);
            case 'W':
                return token.equals("whole");
            default:
                return token.equals(";");
        }
    }

    private int program() {
        Matcher m = Pattern.compile("[a-z]+|[0-9]+|[^ ]", Pattern.DOTALL).matcher(text);
        int commands = 0;
        while (m.find()) {
            int place = m.start();
            String word = m.group();
            if (!GRAMMAR.containsKey(word)) {
                throw new Failure(-1000 - place);
            }
            List<String> rest = new ArrayList<>();
            boolean more = m.find();
            for (char kind : GRAMMAR.get(word).toCharArray()) {
                if (more && fits(kind, m.group())) {
                    rest.add(m.group());
                    more = kind != ';' && m.find();
                } else if (!Character.isLowerCase(kind)) {
                    throw new Failure(-1000 - (more ? m.start() : text.length()));
                }
            }
            try {
                obey(word, rest.subList(0, rest.size() - 1));
            } catch (Failure failure) {
                throw new Failure(-1000 - place);
            }
            commands++;
        }
        return commands;
    }

    private void obey(String word, List<String> rest) {
        Function<Integer, Integer> n = i -> Integer.parseInt(rest.get(i));
        switch (word) {
            case "fold":
                for (int i = 0; i < rest.size(); i++) {
                    act("fold", new int[] {n.apply(i)});
                }
                break;
            case "unfold":
                act("unfold", new int[0]);
                break;
            case "spine":
                act("setSpine", new int[] {EDGES.indexOf(rest.get(0)) / 2});
                break;
            case "cut":
                act("cut", new int[] {EDGES.indexOf(rest.get(0))});
                break;
            case "note":
                act("addNote", new int[] {n.apply(0), n.apply(1), n.apply(2), rest.size() - 3});
                break;
            default:
                int[] arguments = rest.stream().mapToInt(Integer::parseInt).toArray();
                act(Map.of("sheet", "setSheet", "print", "printAll", "staple", "staple", "lines", "setLines")
                        .get(word), arguments);
        }
    }

    // ---- looking

    private int along(Folded f, int edge) {
        return (int) uncut(f).stream().filter(b -> b.edge == edge).count();
    }

    private Integer look(String name, int[] a) {
        switch (name) {
            case "count": {
                Folded f = sheet();
                int[] all = {d.rows, d.columns, d.folds.size(), f.depth, number(d.folds), f.booklet() ? 1 : 0,
                    mask(d.cuts), d.staples.size(), d.sights.size(), d.notes.size(),
                    (slots[0] == null ? 0 : 1) + (slots[1] == null ? 0 : 1), history.size(), text.length(),
                    d.lines, d.legs, d.spine};
                check(in(a[0], 0, all.length - 1));
                return all[a[0]];
            }
            case "side": {
                check(in(a[0], 0, d.rows - 1) && in(a[1], 0, d.columns - 1) && in(a[2], 0, 1) && in(a[3], 0, 1));
                Print p = d.prints.get(List.of(a[0], a[1], a[2]));
                return a[3] == 0 ? (p == null ? -9 : p.number) : p != null && p.turned ? 1 : 0;
            }
            case "layer": {
                Folded f = sheet();
                check(in(a[0], 0, f.width * f.height - 1) && in(a[1], 0, f.depth - 1) && in(a[2], 0, 4));
                Cell c = f.at(a[0], a[1]);
                return new int[] {c.row, c.column, c.up(), c.upDown % 2, c.sideways % 2}[a[2]];
            }
            case "effort":
                check(in(a[0], 0, 4));
                return a[0] < 4 ? d.effort[a[0]] : Arrays.stream(d.effort).sum();
            case "note":
                return lookAtNote(a[0], a[1]);
            case "fitting":
                return fitting(a[0]);
            case "readsBy":
                return ownPages(byRow(a[0]));
            case "cutsFor":
                return mask(toCut(byRow(a[0])));
            case "best":
                return best(a[0]);
            default:
                return lookAtBooklet(name, a);
        }
    }

    private int lookAtNote(int note, int what) {
        check(in(note, 0, d.notes.size() - 1) && in(what, 0, 6));
        Note n = d.notes.get(note);
        if (what < 4) {
            return new int[] {n.subject, n.urgency, n.lines, n.whole ? 1 : 0}[what];
        }
        if (!sheet().booklet()) {
            return -9;
        }
        List<Line> lines = laidOut(sheet()).get(note);
        if (lines.isEmpty()) {
            return -9;
        }
        Line first = lines.get(0);
        return what == 4 ? first.page : what == 5 ? first.onPage : lines.get(lines.size() - 1).page;
    }

    private int fitting(int what) {
        check(in(what, 0, 2));
        TreeSet<Integer> fit = new TreeSet<>();
        allRows().forEach((row, f) -> {
            boolean all = d.sights.stream().allMatch(s -> {
                Print p = on(f, s.page);
                return p != null && p.number == s.number && upright(f, s.page, p.turned) == !s.turned;
            });
            if (all) {
                fit.add(row);
            }
        });
        return what == 0 ? fit.size() : fit.isEmpty() ? -9 : what == 1 ? fit.first() : fit.last();
    }

    private int best(int what) {
        check(in(what, 0, 2));
        List<int[]> ranks = new ArrayList<>();
        allRows().forEach((row, f) -> ranks.add(new int[] {row, toCut(f).size(), ownPages(f)}));
        ranks.sort(Comparator.<int[]>comparingInt(r -> r[1]).thenComparingInt(r -> -r[2]).thenComparingInt(r -> r[0]));
        return ranks.get(0)[what];
    }

    private Integer lookAtBooklet(String name, int[] a) {
        if (!Set.of("page", "opening", "hanging", "together", "pieces", "reading", "pageOf", "index").contains(name)) {
            return null;
        }
        Folded f = booklet();
        switch (name) {
            case "page":
                check(in(a[0], 0, 2 * f.depth - 1) && in(a[1], 0, 7));
                return lookAtPage(f, a[0], a[1]);
            case "opening": {
                check(in(a[0], 0, f.depth) && in(a[1], 0, 2));
                Set<Integer> edges = shut(f, a[0]);
                int lines = (int) allLines(f).stream().filter(l -> l.opening == a[0]).count();
                return a[1] == 0 ? (edges.isEmpty() ? 0 : 1) : a[1] == 1 ? mask(edges) : lines;
            }
            case "hanging":
                check(in(a[0], 0, 3));
                return along(f, a[0]);
            case "together": {
                check(in(a[0], 0, f.depth - 1) && in(a[1], 0, f.depth - 1) && a[0] != a[1]);
                int edges = 0;
                for (Bond b : uncut(f)) {
                    if (b.upper == Math.min(a[0], a[1]) && b.lower == Math.max(a[0], a[1])) {
                        edges |= 1 << b.edge;
                    }
                }
                return edges;
            }
            case "pieces":
                return pieces(f);
            case "reading": {
                check(in(a[0], 0, 2));
                int page = 0;
                while (page < 2 * f.depth && why(f, page) == 0) {
                    page++;
                }
                boolean all = page == 2 * f.depth;
                return a[0] == 0 ? page : all ? -9 : a[0] == 1 ? page : why(f, page);
            }
            case "pageOf":
                check(in(a[0], 0, 31));
                for (int page = 0; page < 2 * f.depth; page++) {
                    if (on(f, page) != null && on(f, page).number == a[0]) {
                        return page;
                    }
                }
                return -9;
            default:
                check(a[0] >= 0 && in(a[1], 0, 1));
                return index(f, a[0], a[1]);
        }
    }

    private int lookAtPage(Folded f, int page, int what) {
        Print p = on(f, page);
        switch (what) {
            case 3:
                return p == null ? -9 : p.number;
            case 4:
                return p == null ? -9 : upright(f, page, p.turned) ? 1 : 0;
            case 5:
                return shut(f, (page + 1) / 2).isEmpty() ? 0 : 1;
            case 6:
                return why(f, page) == 0 ? 1 : 0;
            case 7:
                return (int) laidOut(f).values().stream().flatMap(List::stream).filter(l -> l.page == page).count();
            default:
                return key(f, page).get(what);
        }
    }

    private int index(Folded f, int place, int what) {
        TreeMap<Integer, Integer> index = new TreeMap<>();
        laidOut(f).forEach((note, lines) -> {
            if (!lines.isEmpty()) {
                index.merge(d.notes.get(note).subject, lines.get(0).page, Math::min);
            }
        });
        List<Map.Entry<Integer, Integer>> rows = new ArrayList<>(index.entrySet());
        if (place >= rows.size()) {
            return -9;
        }
        return what == 0 ? rows.get(place).getKey() : rows.get(place).getValue();
    }

    private int pieces(Folded f) {
        List<Set<Integer>> pieces = new ArrayList<>();
        for (int leaf = 0; leaf < f.depth; leaf++) {
            pieces.add(new TreeSet<>(Set.of(leaf)));
        }
        for (Bond b : uncut(f)) {
            merge(pieces, b.upper, b.lower);
        }
        for (int leaf = 1; leaf < Math.min(d.legs, f.depth) && !d.staples.isEmpty(); leaf++) {
            merge(pieces, 0, leaf);
        }
        return pieces.size();
    }

    private static void merge(List<Set<Integer>> pieces, int one, int other) {
        Set<Integer> first = pieces.stream().filter(p -> p.contains(one)).findFirst().get();
        Set<Integer> second = pieces.stream().filter(p -> p.contains(other)).findFirst().get();
        if (first != second) {
            pieces.remove(second);
            first.addAll(second);
        }
    }
}
