/** Counts the calls whose answer is not the one that is due, and tells each of them. */
final class Check {
    private static final int MOST_TOLD = 50;

    private final String test;
    private int calls;
    private int wrong;

    Check(String test) {
        this.test = test;
    }

    void due(String call, long want, long got) {
        calls++;
        if (got != want) {
            fault(call + " answered " + got + ", due is " + want);
        }
    }

    void holds(String what, boolean isSo) {
        calls++;
        if (!isSo) {
            fault("not so: " + what);
        }
    }

    private void fault(String what) {
        wrong++;
        if (wrong <= MOST_TOLD) {
            System.out.println(test + ": " + what);
        }
    }

    void finish() {
        System.out.println(test + ": " + calls + " looked at, " + wrong + " wrong");
        if (wrong != 0 || calls == 0) {
            System.exit(1);
        }
    }
}
