import java.lang.reflect.InvocationTargetException;
import java.lang.reflect.Method;
import java.util.ArrayList;
import java.util.Arrays;
import java.util.HashMap;
import java.util.List;
import java.util.Map;
import java.util.regex.Matcher;
import java.util.regex.Pattern;
import java.util.stream.Collectors;

/** A call of the program, with the answer that is due if one is told. */
record Call(String name, int[] arguments, Integer due) {
    static final int NONE = -9;
    private static final Map<String, Integer> NUMBERS = Map.of("INVALID", -1, "ILLEGAL", -2, "FULL", -3,
            "NONE", NONE, "MIN", Integer.MIN_VALUE, "MAX", Integer.MAX_VALUE);
    private static final Pattern ONE =
            Pattern.compile("\\s*(?:(\\d+)\\*)?(?:'([^']*)'|(\\w+)\\(([^)]*)\\)(?:=(-?\\w+))?)\\s*");
    private static final Map<String, Method> METHODS = new HashMap<>();

    static {
        for (Method method : CribBooklet.class.getDeclaredMethods()) {
            METHODS.put(method.getName(), method);
        }
    }

    static Call of(String name, int... arguments) {
        return new Call(name, arguments, null);
    }

    /**
     * Reads a row of calls: name(1, 2) is a call that is not to be refused, name(1, 2)=ILLEGAL tells its answer,
     * 3*name(1) is three calls, 'text' appends each of its characters.
     */
    static List<Call> row(String row) {
        List<Call> calls = new ArrayList<>();
        Matcher m = ONE.matcher(row);
        int end = 0;
        while (end < row.length()) {
            if (!m.find(end) || m.start() != end) {
                throw new IllegalArgumentException("no row of calls: " + row);
            }
            for (int i = m.group(1) == null ? 1 : Integer.parseInt(m.group(1)); i > 0; i--) {
                calls.addAll(m.group(2) != null ? text(m.group(2)) : List.of(read(m)));
            }
            end = m.end();
        }
        return calls;
    }

    private static Call read(Matcher m) {
        int[] arguments = m.group(4).isBlank() ? new int[0]
                : Arrays.stream(m.group(4).split(",")).mapToInt(a -> number(a.strip())).toArray();
        return new Call(m.group(3), arguments, m.group(5) == null ? null : number(m.group(5)));
    }

    private static int number(String text) {
        return NUMBERS.containsKey(text) ? NUMBERS.get(text) : Integer.parseInt(text);
    }

    static List<Call> text(String text) {
        return text.chars().mapToObj(c -> of("append", c)).collect(Collectors.toList());
    }

    static List<Call> join(List<Call> calls, Call... more) {
        List<Call> all = new ArrayList<>(calls);
        all.addAll(Arrays.asList(more));
        return all;
    }

    static CribBooklet made(List<Call> calls) {
        CribBooklet x = new CribBooklet();
        for (Call call : calls) {
            call.on(x);
        }
        return x;
    }

    int on(CribBooklet x) {
        Method method = METHODS.get(name);
        if (method == null) {
            throw new IllegalArgumentException("no method " + name);
        }
        try {
            switch (arguments.length) {
                case 0:
                    return (Integer) method.invoke(x);
                case 1:
                    return (Integer) method.invoke(x, arguments[0]);
                case 2:
                    return (Integer) method.invoke(x, arguments[0], arguments[1]);
                default:
                    return (Integer) method.invoke(x, Arrays.stream(arguments).boxed().toArray());
            }
        } catch (IllegalAccessException | InvocationTargetException e) {
            throw new IllegalStateException("thrown by " + this, e);
        }
    }

    static boolean isRefusal(int answer) {
        return answer < 0 && answer != NONE;
    }

    @Override
    public String toString() {
        return name + "(" + Arrays.stream(arguments).mapToObj(String::valueOf).collect(Collectors.joining(", ")) + ")";
    }
}
