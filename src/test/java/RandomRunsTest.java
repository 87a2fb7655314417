import java.lang.reflect.Method;
import java.util.Arrays;
import java.util.HashMap;
import java.util.Map;
import java.util.Random;

/** Long runs of calls, always the same ones, each answered by the program as by the model. */
public final class RandomRunsTest {
    private static final Due DUE = new Due();
    private static final Map<String, Method> METHODS = new HashMap<>();
    private static final String[] LOOKS = {
        "count", "side", "layer", "page", "opening", "hanging", "together", "pieces", "reading", "pageOf", "note",
        "index", "effort", "fitting", "readsBy", "cutsFor", "best"
    };
    private static final int[] ODD = {Integer.MIN_VALUE, -1001, -9, -1, 32, 99, 121, 256, 5000, Integer.MAX_VALUE};
    private static final String[] COMMANDS = {
        "sheet 2 4;", "sheet4 4 ;", "sheet 1 2;", "sheet 1 1;", "sheet 2 2;", "sheet 3 2;", "fold 1;", "fold 1 3;",
        "fold 2 4;", "fold 1 1 3;", "fold 1 3 1 3;", "fold 1 1 1 1 1;", "fold;", "unfold;", "spine left;",
        "spine top;", "spine right;", "print 113;", "print 1313;", "print 13;", "print 0;", "print 01;", "cut left;",
        "cut right;", "cut top;", "cut bottom;", "cut leftt;", "staple 3;", "staple 0;", "staple 10;",
        "note 5 3 2;", "note 7 9 4 whole;", "note 7 9 4whole;", "note 100 1 1;", "note 1 2;", "lines 3;", "lines 0;",
        "lines 10000;", "unfold", ";", "Fold 1;", "fold 1", "\u00ff", "\t", "  ", "note 99 0 20 whole ;", "lines 9;"
    };

    private final Random random;
    private final CribBooklet booklet = new CribBooklet();
    private final Model model = new Model();
    private int calls = 0;

    private RandomRunsTest(long seed) {
        random = new Random(seed);
    }

    public static void main(String[] args) throws Exception {
        for (Method method : CribBooklet.class.getDeclaredMethods()) {
            METHODS.put(method.getName(), method);
        }
        for (int seed = 0; seed < 400; seed++) {
            DUE.of("seed " + seed);
            new RandomRunsTest(seed).go();
        }
        DUE.end();
    }

    private void go() throws Exception {
        while (calls < 512) {
            act();
            for (int i = model.call("count", 5) == 1 ? 8 : 2; i > 0; i--) {
                look();
            }
        }
    }

    /** What is answered behind 512 calls is free: no more are made. */
    private void call(String name, int... arguments) throws Exception {
        if (calls >= 512) {
            return;
        }
        calls++;
        Object[] boxed = Arrays.stream(arguments).boxed().toArray();
        int got = (Integer) METHODS.get(name).invoke(booklet, boxed);
        DUE.is("call " + calls + ", " + name + Arrays.toString(arguments), got, model.call(name, arguments));
    }

    private int upTo(int greatest) {
        return random.nextInt(40) == 0 ? ODD[random.nextInt(ODD.length)] : random.nextInt(greatest + 1);
    }

    private int size() {
        int[] sizes = {1, 2, 4, 2, 4, 2, 4, 3, 0, 8};
        return sizes[random.nextInt(random.nextInt(5) == 0 ? sizes.length : 7)];
    }

    private int row() {
        if (random.nextInt(10) == 0) {
            return upTo(4444);
        }
        int row = 0;
        int columns = model.call("count", 1);
        int rows = model.call("count", 0);
        while (rows * columns > 1) {
            int fold = random.nextInt(4) + 1;
            if (fold <= 2 && columns > 1) {
                columns /= 2;
                row = row * 10 + fold;
            } else if (fold > 2 && rows > 1) {
                rows /= 2;
                row = row * 10 + fold;
            }
        }
        return random.nextInt(30) == 0 ? row * 10 : row;
    }

    private void act() throws Exception {
        switch (random.nextInt(24)) {
            case 0:
                call("setSheet", size(), size());
                break;
            case 1:
            case 2:
            case 3:
                call("fold", random.nextInt(6));
                foldOn();
                break;
            case 4:
                call("unfold");
                break;
            case 5:
                call("setSpine", upTo(1));
                break;
            case 6:
                for (int i = random.nextInt(9); i > 0; i--) {
                    call("print", upTo(model.call("count", 0) - 1), upTo(model.call("count", 1) - 1), upTo(1),
                            upTo(random.nextBoolean() ? 4 : 32) - 1, upTo(1));
                }
                break;
            case 7:
            case 8:
                call("printAll", row());
                foldOn();
                break;
            case 9:
                call("cut", upTo(3));
                break;
            case 10:
                for (int i = random.nextInt(4); i >= 0; i--) {
                    call("staple", upTo(4));
                }
                break;
            case 11:
                call("unstaple", upTo(4));
                break;
            case 12:
                call("setLegs", upTo(16));
                break;
            case 13:
                see();
                break;
            case 14:
                call(random.nextInt(4) == 0 ? "forget" : "clearText");
                break;
            case 15:
            case 16:
                for (int i = random.nextInt(5); i >= 0; i--) {
                    call("addNote", upTo(random.nextBoolean() ? 5 : 99), upTo(3), upTo(random.nextBoolean() ? 20 : 7),
                            upTo(1));
                }
                break;
            case 17:
                call("removeNote", upTo(Math.max(0, model.call("count", 9))));
                break;
            case 18:
                call("setLines", upTo(9));
                break;
            case 19:
                call("take", upTo(1));
                break;
            case 20:
                call("restore", upTo(1));
                break;
            case 21:
                call("undo");
                break;
            default:
                program();
        }
    }

    private void foldOn() throws Exception {
        for (int i = random.nextInt(6); i > 0; i--) {
            call("fold", random.nextInt(4) + 1);
        }
    }

    /** A sight that some row of folds shows, or any. */
    private void see() throws Exception {
        int page = upTo(31);
        int number = model.call("page", page, 3);
        int upright = model.call("page", page, 4);
        if (number >= 0 && upright >= 0 && random.nextInt(4) != 0) {
            call("see", page, number, 1 - upright);
        } else {
            call("see", page, upTo(31), upTo(1));
        }
    }

    private void program() throws Exception {
        StringBuilder text = new StringBuilder();
        for (int i = random.nextInt(4); i >= 0; i--) {
            text.append(COMMANDS[random.nextInt(COMMANDS.length)]);
            text.append(random.nextInt(3) == 0 ? " " : "");
        }
        if (random.nextInt(8) == 0) {
            text.setLength(random.nextInt(text.length() + 1));
        }
        for (int i = 0; i < text.length() && calls < 480; i++) {
            call("append", text.charAt(i));
        }
        call("run");
        if (random.nextInt(3) != 0) {
            call("clearText");
        }
    }

    private void look() throws Exception {
        String name = LOOKS[random.nextInt(LOOKS.length)];
        int leaves = model.call("count", 0) * model.call("count", 1);
        int depth = model.call("count", 3);
        switch (name) {
            case "count":
                call(name, upTo(16));
                break;
            case "side":
                call(name, upTo(model.call("count", 0) - 1), upTo(model.call("count", 1) - 1), upTo(1), upTo(1));
                break;
            case "layer":
                call(name, upTo(leaves / depth - 1), upTo(depth - 1), upTo(4));
                break;
            case "page":
                call(name, upTo(leaves * 2 - 1), upTo(7));
                break;
            case "opening":
                call(name, upTo(leaves), upTo(2));
                break;
            case "together":
                call(name, upTo(leaves - 1), upTo(leaves - 1));
                break;
            case "pieces":
                call(name);
                break;
            case "hanging":
                call(name, upTo(3));
                break;
            case "pageOf":
                call(name, upTo(leaves * 2));
                break;
            case "note":
                call(name, upTo(Math.max(0, model.call("count", 9) - 1)), upTo(6));
                break;
            case "index":
                call(name, upTo(4), upTo(1));
                break;
            case "effort":
                call(name, upTo(4));
                break;
            case "readsBy":
            case "cutsFor":
                call(name, row());
                break;
            default:
                call(name, upTo(2));
        }
    }
}
