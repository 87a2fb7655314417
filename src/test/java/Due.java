/** Counts the answers that are not the ones that are due. */
final class Due {
    private String promise = "";
    private int asked = 0;
    private int wrong = 0;

    void of(String newPromise) {
        promise = newPromise;
    }

    void is(String call, long got, long want) {
        asked++;
        if (got != want) {
            wrong++;
            System.out.println(promise + ": " + call + " answered " + got + ", due is " + want);
        }
    }

    void holds(String what, boolean holds) {
        asked++;
        if (!holds) {
            wrong++;
            System.out.println(promise + ": not so: " + what);
        }
    }

    int asked() {
        return asked;
    }

    void end() {
        System.out.println(asked + " answers, " + wrong + " of them not as due");
        if (wrong != 0) {
            System.exit(1);
        }
    }
}
