import java.util.ArrayList;
import java.util.List;

/** Promises 2 to 22 once more: undo() and restore() bring all of a state back, and failures change nothing of it. */
public final class UndoTest {
    private static final Due DUE = new Due();

    public static void main(String[] args) {
        for (int kind = 0; kind < 4; kind++) {
            undone(kind);
            failed(kind);
            restored(kind);
        }
        sights();
        oldest();
        DUE.end();
    }

    /** An open sheet, a folded one, a booklet, and one that is cut and stapled; all with much else. */
    private static CribBooklet make(int kind) {
        CribBooklet x = new CribBooklet();
        x.setSheet(2, 4);
        x.printAll(311);
        x.print(1, 2, 0, -1, 0);
        x.print(0, 1, 1, 30, 1);
        x.setSpine(kind % 2);
        x.see(0, 0, 0);
        x.see(3, 3, 0);
        x.addNote(50, 3, 4, 1);
        x.addNote(20, 3, 9, 0);
        x.addNote(20, 7, 2, 0);
        x.setLines(4);
        x.setLegs(3);
        x.take(0);
        int[] folds = {3, 1, 2};
        for (int i = 0; i < 3 && i < kind * 2; i++) {
            x.fold(folds[i]);
        }
        if (kind == 3) {
            x.cut(1);
            x.staple(7);
            x.staple(2);
        }
        return x;
    }

    /** All that can be seen of an object but its text and its history. */
    private static List<Integer> looks(CribBooklet x) {
        List<Integer> all = new ArrayList<>();
        for (int what = 0; what <= 15; what++) {
            if (what != 11 && what != 12) {
                all.add(x.count(what));
            }
        }
        for (int one = 0; one < 16; one++) {
            for (int other = 0; other < 16; other++) {
                for (int what = 0; what < 2; what++) {
                    all.add(x.side(one / 4, one % 4, other % 2, what));
                }
                all.add(x.layer(one, other, 0) * 4 + x.layer(one, other, 1));
                all.add(x.layer(one, other, 3) * 4 + x.layer(one, other, 4));
                all.add(x.together(one, other));
            }
            for (int what = 0; what < 3; what++) {
                all.add(x.opening(one, what));
                all.add(x.index(one, what));
            }
        }
        for (int one = 0; one < 32; one++) {
            for (int what = 0; what <= 7; what++) {
                all.add(x.page(one, what));
                all.add(x.note(one, what));
            }
            all.add(x.pageOf(one));
        }
        for (int what = 0; what <= 4; what++) {
            all.add(x.hanging(what));
            all.add(x.reading(what));
            all.add(x.effort(what));
            all.add(x.fitting(what));
            all.add(x.best(what));
        }
        all.add(x.pieces());
        for (int folds : new int[] {113, 224, 311, 412}) {
            all.add(x.readsBy(folds));
            all.add(x.cutsFor(folds));
        }
        return all;
    }

    private static int act(CribBooklet x, int action) {
        switch (action) {
            case 0:
                return x.setSheet(4, 2);
            case 1:
                return x.fold(1);
            case 2:
                return x.unfold();
            case 3:
                return x.setSpine(1 - x.count(15));
            case 4:
                return x.print(0, 3, 1, 7, 1);
            case 5:
                return x.printAll(124);
            case 6:
                return x.cut(3);
            case 7:
                return x.staple(4);
            case 8:
                return x.unstaple(7);
            case 9:
                return x.setLegs(16);
            case 10:
                return x.see(1, 9, 1);
            case 11:
                return x.forget();
            case 12:
                return x.addNote(5, 9, 3, 1);
            case 13:
                return x.removeNote(0);
            case 14:
                return x.setLines(2);
            case 15:
                return x.take(1);
            case 16:
                return x.restore(0);
            default:
                for (char c : "sheet 4 2;spine left;fold 3;note 1 1 1;lines 9;".toCharArray()) {
                    x.append(c);
                }
                return x.run();
        }
    }

    private static final int ACTIONS = 18;

    private static void undone(int kind) {
        for (int action = 0; action < ACTIONS; action++) {
            DUE.of("undo of action " + action + " on a sheet of kind " + kind);
            CribBooklet x = make(kind);
            List<Integer> before = looks(x);
            int states = x.count(11);
            int result = act(x, action);
            boolean isError = result < 0 && result != -9;
            DUE.is("states", x.count(11), 5);
            if (!isError) {
                // Another state comes in between, so that nothing is right by chance.
                x.setLegs(8);
                x.undo();
                DUE.is("undo()", x.undo(), states - 2);
            }
            DUE.holds("all is as before", before.equals(looks(x)));
        }
    }

    private static void failed(int kind) {
        DUE.of("a program that fails, kind " + kind);
        String[] texts = {"sheet 4 2;fold 3;note 1 1 1;lines 9;x", "spine top;spine left;note 1 1 1 whole;fold 5;",
            "unfold;unfold;unfold;unfold;", "print 311;fold 1 1 3;cut top;staple 4;staple 4;", "staple 1;cut top;cut right;cut right;",
            "lines 1;note 0 9 1;fold 1 1 1 1;"};
        for (String text : texts) {
            CribBooklet x = make(kind);
            List<Integer> before = looks(x);
            for (char c : text.toCharArray()) {
                x.append(c);
            }
            DUE.holds("«" + text + "» fails", x.run() <= -1000);
            DUE.holds("all is as before «" + text + "»", before.equals(looks(x)));
            DUE.is("the text", x.count(12), text.length());
        }
    }

    private static void restored(int kind) {
        DUE.of("promise 18, kind " + kind);
        CribBooklet x = make(kind);
        x.take(1);
        List<Integer> before = looks(x);
        x.setSheet(1, 2);
        x.print(0, 1, 1, 5, 1);
        x.setSpine(1 - x.count(15));
        x.fold(2);
        x.cut(2);
        x.staple(5);
        x.setLegs(11);
        x.see(2, 2, 1);
        x.removeNote(1);
        x.addNote(99, 0, 1, 0);
        x.setLines(9);
        DUE.is("restore(1)", x.restore(1), Math.min(kind * 2, 3));
        DUE.holds("all is as before", before.equals(looks(x)));
        x.undo();
        DUE.is("undo() of restore", x.count(14), 11);
    }

    private static void sights() {
        DUE.of("promise 18, sights");
        CribBooklet x = new CribBooklet();
        x.setSheet(1, 4);
        x.printAll(12);
        x.print(0, 0, 1, 8, 1);
        x.see(0, 0, 0);
        x.take(0);
        x.forget();
        x.see(0, 8, 1);
        DUE.is("fitting(1) of another sight", x.fitting(1), 21);
        x.undo();
        x.undo();
        DUE.is("fitting(1) behind undo", x.fitting(1), 12);
        x.forget();
        x.see(1, 8, 1);
        x.restore(0);
        DUE.is("fitting(1) behind restore", x.fitting(1), 12);
        x.forget();
        x.see(0, 0, 1);
        x.restore(0);
        DUE.is("fitting(1) behind restore again", x.fitting(1), 12);
    }

    private static void oldest() {
        DUE.of("promise 19, the oldest state");
        CribBooklet x = new CribBooklet();
        for (int lines = 1; lines <= 8; lines++) {
            x.setLines(lines);
            x.setLines(0);
            x.fold(7);
        }
        for (int left = 4; left >= 0; left--) {
            DUE.is("undo()", x.undo(), left);
            DUE.is("lines", x.count(13), left + 3);
        }
        x.setLines(9);
        DUE.is("undo() once more", x.undo(), 0);
        DUE.is("lines then", x.count(13), 3);
    }
}
