/** Counts the calls whose answer is not the one that is due, and tells each of them. */
final class Check {
    private final String test;
    private final int mostTold;
    private int calls;
    private int wrong;
    private int toldOfGroup;

    Check(String test) {
        this(test, 50);
    }

    /** Of each group so many faults are told, and all are counted. */
    Check(String test, int mostTold) {
        this.test = test;
        this.mostTold = mostTold;
    }

    void nextGroup() {
        toldOfGroup = 0;
    }

    void due(String call, long want, long got) {
        calls++;
        if (got != want) {
            fault(call + " answered " + got + ", due is " + want);
        }
    }

    void holds(String what, boolean isSo) {
        calls++;
        if (!isSo) {
            fault("not so: " + what);
        }
    }

    private void fault(String what) {
        wrong++;
        toldOfGroup++;
        if (toldOfGroup <= mostTold) {
            System.out.println(test + ": " + what);
        }
    }

    void finish() {
        System.out.println(test + ": " + calls + " looked at, " + wrong + " wrong");
        if (wrong != 0 || calls == 0) {
            System.exit(1);
        }
    }
}
