/** Collects the calls whose answers are not the ones that are due. */
final class Check {
    static final int ATOM = LogicHeapCollector.KIND_ATOM;
    static final int INT = LogicHeapCollector.KIND_INT;
    static final int VAR = LogicHeapCollector.KIND_VAR;
    static final int STRUCT = LogicHeapCollector.KIND_STRUCT;
    static final int NONE = LogicHeapCollector.KIND_NONE;
    static final int OK = LogicHeapCollector.BIND_OK;
    static final int FAIL = LogicHeapCollector.BIND_FAIL;
    static final int REFUSED = LogicHeapCollector.BIND_REFUSED;

    /** Numbers outside the range of the valid roots of any object. */
    static final int[] NO_ROOTS = {-1, 8, 9, 256, Integer.MIN_VALUE, Integer.MAX_VALUE};

    private int wrong = 0;

    void due(String call, Object got, Object want) {
        if (!got.equals(want)) {
            wrong++;
            System.out.println(call + " answered " + got + ", due is " + want);
        }
    }

    /** The root's kind, value, arity and tree size, as the four getters answer them. */
    void dueTerm(String what, LogicHeapCollector x, int r, int... want) {
        due(what + ": kind(" + r + ")", x.kind(r), want[0]);
        due(what + ": value(" + r + ")", x.value(r), want[1]);
        due(what + ": arity(" + r + ")", x.arity(r), want[2]);
        due(what + ": treeSize(" + r + ")", x.treeSize(r), want[3]);
    }

    void dueUnchanged(String call, LogicHeapCollector x, String before) {
        due("state after " + call, state(x), before);
    }

    /** Six roots with a term of every kind, unbound variables and a bound one. */
    static LogicHeapCollector mixed() {
        LogicHeapCollector x = new LogicHeapCollector(6, 64);
        x.newVar(0);
        x.newVar(1);
        x.setConst(2, ATOM, 7);
        x.setConst(3, INT, -7);
        x.build(4, 8, 4, 0);
        x.newVar(5);
        x.bind(5, 4);
        return x;
    }

    /** Everything that the getters show. */
    static String state(LogicHeapCollector x) {
        StringBuilder text = new StringBuilder("used " + x.used());
        for (int r = 0; r < LogicHeapCollector.MAX_ROOTS; r++) {
            text.append(" | ").append(x.kind(r)).append(' ').append(x.value(r));
            text.append(' ').append(x.arity(r)).append(' ').append(x.treeSize(r));
            for (int other = 0; other < r; other++) {
                text.append(x.sameVar(r, other) ? " =" + other : "");
            }
        }
        return text.toString();
    }

    /**
     * Root 1 gets a term of just this tree size over the constant or variable in root 0; root 2
     * is lost. A pair of twins takes a size s to 2s + 1, a wrap takes it to s + 1, so the binary
     * digits of size + 1 tell the way.
     */
    static void grow(LogicHeapCollector x, int size) {
        int goal = size + 1;
        int digits = 31 - Integer.numberOfLeadingZeros(goal);
        x.move(1, 0);
        for (int digit = digits - 1; digit >= 0; digit--) {
            if (digit < digits - 1) {
                x.move(2, 1);
                x.build(1, 1, 2, 1);
            }
            if ((goal >> digit & 1) == 1) {
                x.build(1, 1, 1, 1);
            }
        }
    }

    boolean allDue() {
        return wrong == 0;
    }

    void finish() {
        if (wrong != 0) {
            System.out.println(wrong + " answers are not as due");
            System.exit(1);
        }
    }
}
