import java.util.ArrayList;
import java.util.List;

/**
 * All that can be seen of an object that a row of calls makes. Each object answers at most 512 calls, so the row is
 * done again, on a new object, as often as it is needed.
 */
final class Look {
    private static final int MOST_CALLS = 512;

    private Look() {
    }

    /** What can be seen but the text, the history and what is in the slots. */
    static List<Integer> desk(List<Call> calls) {
        List<Integer> seen = new ArrayList<>();
        List<Call> looks = looks(Call.made(calls));
        int atOnce = MOST_CALLS - calls.size();
        if (atOnce < 1) {
            throw new IllegalArgumentException("too long to be looked at: " + calls);
        }
        for (int from = 0; from < looks.size(); from += atOnce) {
            CribBooklet x = Call.made(calls);
            for (Call look : looks.subList(from, Math.min(from + atOnce, looks.size()))) {
                seen.add(look.on(x));
            }
        }
        return seen;
    }

    /** What can be seen but the text and the history. */
    static List<Integer> state(List<Call> calls) {
        List<Integer> seen = desk(calls);
        for (int slot = 0; slot < 2; slot++) {
            Call restore = Call.of("restore", slot);
            seen.add(restore.on(Call.made(calls)));
            seen.addAll(desk(Call.join(calls, restore)));
        }
        return seen;
    }

    /** What can be seen but the text, by taking all back, too. */
    static List<Integer> history(List<Call> calls) {
        List<Integer> seen = state(calls);
        int states = Call.made(calls).count(11);
        seen.add(states);
        List<Call> back = new ArrayList<>(calls);
        for (int i = 0; i < states; i++) {
            back.add(Call.of("undo"));
            seen.addAll(state(back));
        }
        return seen;
    }

    /** All that can be seen, by running the text, too. */
    static List<Integer> all(List<Call> calls) {
        List<Integer> seen = history(calls);
        CribBooklet x = Call.made(calls);
        seen.add(x.count(12));
        seen.add(x.run());
        seen.addAll(desk(Call.join(calls, Call.of("run"))));
        return seen;
    }

    private static List<Call> looks(CribBooklet x) {
        List<Call> looks = new ArrayList<>();
        int rows = x.count(0);
        int columns = x.count(1);
        add(looks, "side", rows, columns, 2, 2);
        add(looks, "layer", rows * columns / x.count(3), x.count(3), 5);
        for (int what = 0; what <= 15; what++) {
            if (what != 11 && what != 12) {
                looks.add(Call.of("count", what));
            }
        }
        add(looks, "note", x.count(9), 7);
        add(looks, "effort", 5);
        add(looks, "fitting", 3);
        add(looks, "best", 3);
        if (x.count(5) == 1) {
            addBooklet(looks, x.count(3));
        }
        return looks;
    }

    private static void addBooklet(List<Call> looks, int leaves) {
        add(looks, "page", leaves * 2, 8);
        add(looks, "opening", leaves + 1, 3);
        add(looks, "together", leaves, leaves);
        add(looks, "hanging", 4);
        add(looks, "reading", 3);
        add(looks, "pageOf", 32);
        add(looks, "index", 13, 2);
        looks.add(Call.of("pieces"));
    }

    /** Adds calls with all arguments from 0 up to less than these. */
    private static void add(List<Call> looks, String name, int... sizes) {
        int many = 1;
        for (int size : sizes) {
            many *= size;
        }
        for (int i = 0; i < many; i++) {
            int[] arguments = new int[sizes.length];
            int rest = i;
            for (int k = sizes.length - 1; k >= 0; k--) {
                arguments[k] = rest % sizes[k];
                rest /= sizes[k];
            }
            looks.add(Call.of(name, arguments));
        }
    }
}
