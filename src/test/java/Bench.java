import java.util.List;

/** Tests of the document's clauses: rows of calls, each row on a new object. */
final class Bench {
    private static final int MOST_CALLS = 512;
    private static final int INVALID = -1;
    private static final int MIN = Integer.MIN_VALUE;
    private static final int MAX = Integer.MAX_VALUE;

    private final Due due;
    private final Doc doc;
    private String clause = "";
    private int askedBefore = 0;
    /** What was looked at last, as the next refused call of a row is often made on the same object. */
    private String lookedAt = "";
    private List<Integer> seen = List.of();

    Bench(Due due, Doc doc) {
        this.due = due;
        this.doc = doc;
    }

    void promise(int number, String words) {
        term("Promise " + number, words);
    }

    /** Begins the test of a clause of the document. */
    void term(String section, String words) {
        endClause();
        clause = section + ", \"" + words + "\"";
        due.of(clause);
        due.holds("these words stand in the document", doc.quote(section, words));
        askedBefore = due.asked();
    }

    void endClause() {
        due.holds("the clause is tested", clause.isEmpty() || due.asked() > askedBefore);
    }

    void is(String what, int got, int want) {
        due.is(what, got, want);
    }

    void holds(String what, boolean holds) {
        due.holds(what, holds);
    }

    /** Each of the rows behind the calls that come first, on an object of its own. */
    void rows(String first, String... rows) {
        for (String row : rows) {
            row(first + " " + row);
        }
    }

    /** The calls of a row answer what is due, and those that are refused change nothing. */
    void row(String row) {
        row(Call.row(row));
    }

    private void row(List<Call> calls) {
        due.holds("at most " + MOST_CALLS + " calls: " + calls, calls.size() <= MOST_CALLS);
        CribBooklet x = new CribBooklet();
        for (int i = 0; i < calls.size(); i++) {
            Call call = calls.get(i);
            int answer = call.on(x);
            String what = call + " behind " + calls.subList(0, i);
            if (call.due() == null) {
                due.holds(what + " is not refused", !Call.isRefusal(answer));
            } else {
                due.is(what, answer, call.due());
            }
            if (Call.isRefusal(answer)) {
                changesNothing(calls.subList(0, i), call);
            }
        }
    }

    private void changesNothing(List<Call> calls, Call refused) {
        List<Integer> before = look(calls);
        due.holds(refused + " changes nothing behind " + calls, before.equals(look(Call.join(calls, refused))));
    }

    private List<Integer> look(List<Call> calls) {
        if (!lookedAt.equals(calls.toString())) {
            seen = Look.all(calls);
            lookedAt = calls.toString();
        }
        return seen;
    }

    /** The call, in which # is an argument, is refused as invalid but for these arguments. */
    void range(String first, String call, int least, int greatest) {
        for (int value = least; value <= greatest; value++) {
            row(first + " " + call.replace("#", "" + value));
        }
        outside(first, call, least, greatest);
    }

    /** The call, in which # is an argument, is refused as invalid for arguments that are not from least to greatest. */
    void outside(String first, String call, int least, int greatest) {
        long[] values = {least - 1L, greatest + 1L, least - 32L, least + 32L, least + 64L, least + 256L, least + 65536L,
            MIN, MAX};
        for (long value : values) {
            if (value < least || value > greatest) {
                row(first + " " + call.replace("#", "" + value) + "=" + INVALID);
            }
        }
    }

    /** The call looks at the object only. */
    void looks(String first, String... calls) {
        for (String call : calls) {
            row(first + " " + call);
            List<Call> before = Call.row(first);
            List<Call> behind = Call.row(first + " " + call);
            due.holds(call + " changes nothing behind " + first, look(before).equals(Look.all(behind)));
        }
    }

    /** The call records the state before it, and undo() brings this back. */
    void action(String first, String call) {
        row(first + " " + call);
        List<Call> before = Call.row(first);
        List<Call> behind = Call.row(first + " " + call);
        List<Call> back = Call.join(behind, Call.of("undo"));
        int states = Call.made(before).count(11);
        due.is("states behind " + first + " " + call, Call.made(behind).count(11), Math.min(states + 1, 5));
        due.is("undo() of " + call, Call.made(behind).undo(), Math.min(states, 4));
        due.holds(call + " is taken back behind " + first, Look.state(before).equals(Look.state(back)));
        if (states < 5) {
            due.holds("the history is as before " + call, Look.history(before).equals(Look.history(back)));
        }
    }

    /** Both rows lead to the same state, whatever the history and the text. */
    void same(String one, String other) {
        row(one);
        row(other);
        due.holds(one + " does the same as " + other,
                Look.state(Call.row(one)).equals(Look.state(Call.row(other))));
    }

    /** The change is undone by the snapshot that was taken before it. */
    void restored(String first, String change) {
        for (int slot = 0; slot < 2; slot++) {
            String taken = first + " take(" + slot + ")";
            String behind = taken + " " + change + " restore(" + slot + ")";
            row(behind);
            due.holds("before the change all is as before: " + change,
                    !Look.desk(Call.row(taken)).equals(Look.desk(Call.row(taken + " " + change))));
            due.holds("all is as before: " + behind, Look.desk(Call.row(taken)).equals(Look.desk(Call.row(behind))));
        }
    }

    /** The text has so many commands and does not fail. */
    void runs(String first, String text, int commands) {
        List<Call> calls = Call.join(Call.row(first), Call.text(text).toArray(new Call[0]));
        row(Call.join(calls, new Call("run", new int[0], commands)));
        CribBooklet x = Call.made(Call.join(calls, Call.of("run")));
        due.is("the text behind " + text, x.count(12), 0);
    }

    /** The text fails at the sign @, which is no part of it. */
    void fails(String first, String... texts) {
        for (String text : texts) {
            List<Call> calls = Call.join(Call.row(first), Call.text(text.replace("@", "")).toArray(new Call[0]));
            due.holds("the place is told: " + text, text.contains("@"));
            row(Call.join(calls, new Call("run", new int[0], -1000 - text.indexOf('@'))));
            CribBooklet x = Call.made(Call.join(calls, Call.of("run")));
            due.is("the text is kept: " + text, x.count(12), Call.made(calls).count(12));
        }
    }
}
