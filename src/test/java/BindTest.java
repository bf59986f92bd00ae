/** Promise 7: bind. */
final class BindTest {
    private static final int MIN = Integer.MIN_VALUE;
    private static final int MAX = Integer.MAX_VALUE;
    private static final Check check = new Check();

    public static void main(String[] args) {
        bindsToConstantsAndStructures();
        bindsAVariableToItself();
        bindsYoungerToOlder();
        bindsManyToOne();
        bindsLongChains();
        agesFollowTheCallsAfterBacktracking();
        failsWhereTheVariableOccurs();
        looksThroughBindingsForTheVariable();
        refusesWhatIsNoVariable();
        refusesBadRoots();
        keepsToTheTreeLimit();
        refusesBeforeItFails();
        refusesSizesBeyondInt();
        check.finish();
    }

    private static void bindsToConstantsAndStructures() {
        LogicHeapCollector x = new LogicHeapCollector(8, 64);
        x.setConst(0, Check.ATOM, 4095);
        x.setConst(1, Check.INT, -32768);
        x.build(2, 17, 2, 0);
        for (int t = 0; t < 3; t++) {
            x.newVar(3);
            x.move(4, 3);
            x.build(5, 18, 1, 3);
            int used = x.used();
            check.due("bind(3, " + t + ")", x.bind(3, t), Check.OK);
            check.due("used() after bind", x.used(), used);
            check.dueTerm("through its root", x, 3, x.kind(t), x.value(t), x.arity(t),
                x.treeSize(t));
            check.dueTerm("through another root", x, 4, x.kind(t), x.value(t), x.arity(t),
                x.treeSize(t));
            x.getArg(6, 5, 1);
            check.dueTerm("through an argument", x, 6, x.kind(t), x.value(t), x.arity(t),
                x.treeSize(t));
            check.due("treeSize(5)", x.treeSize(5), 1 + x.treeSize(t));
            check.due("a bound variable is no more bound", x.bind(4, t), Check.REFUSED);
        }
    }

    private static void bindsAVariableToItself() {
        LogicHeapCollector x = new LogicHeapCollector(4, 16);
        x.newVar(0);
        x.move(1, 0);
        x.newVar(2);
        x.bind(2, 0);
        String before = Check.state(x);
        for (int v = 0; v < 3; v++) {
            for (int t = 0; t < 3; t++) {
                check.due("bind(" + v + ", " + t + ")", x.bind(v, t), Check.OK);
                check.dueUnchanged("a bind to itself", x, before);
            }
        }
        check.due("the variable is still unbound", x.bind(0, 3), Check.OK);
        check.dueTerm("bound at last", x, 2, Check.ATOM, 0, 0, 1);
    }

    /**
     * No call shows which way a binding goes, but all show that the two are one variable, that
     * it stays unbound, and that a backtrack which drops the younger leaves the older whole.
     */
    private static void bindsYoungerToOlder() {
        for (int order = 0; order < 2; order++) {
            LogicHeapCollector x = new LogicHeapCollector(5, 32);
            x.newVar(0);
            x.pushChoice();
            x.newVar(1);
            x.build(2, 3, 1, 1);
            check.due("bind", order == 0 ? x.bind(0, 1) : x.bind(1, 0), Check.OK);
            check.due("sameVar(0, 1)", x.sameVar(0, 1), true);
            check.dueTerm("the older", x, 0, Check.VAR, 0, 0, 1);
            x.getArg(3, 2, 1);
            check.due("the argument too", x.sameVar(3, 0), true);
            x.newVar(4);
            check.due("bind to the third", order == 0 ? x.bind(1, 4) : x.bind(4, 1), Check.OK);
            check.due("sameVar(4, 0)", x.sameVar(4, 0), true);
            x.setConst(3, Check.INT, 9);
            check.due("bind the three", x.bind(4, 3), Check.OK);
            for (int r : new int[] {0, 1, 4}) {
                check.dueTerm("one of the three", x, r, Check.INT, 9, 0, 1);
            }
            x.backtrack();
            check.dueTerm("the older after backtrack", x, 0, Check.VAR, 0, 0, 1);
            x.newVar(1);
            check.due("a new variable is another", x.sameVar(0, 1), false);
        }
    }

    private static void bindsManyToOne() {
        LogicHeapCollector x = new LogicHeapCollector(4, 240);
        x.newVar(0);
        x.move(1, 0);
        for (int made = 2; made <= 240; made++) {
            x.newVar(2);
            check.due("bind to the one before", x.bind(1, 2), Check.OK);
            x.move(1, 2);
        }
        check.due("used()", x.used(), 240);
        check.due("the first and the last", x.sameVar(0, 2), true);
        check.due("bind(2, 3)", x.bind(2, 3), Check.OK);
        check.dueTerm("the first", x, 0, Check.ATOM, 0, 0, 1);
        check.dueTerm("the last", x, 2, Check.ATOM, 0, 0, 1);
    }

    /** As many variables as can be kept at hand, each bound while the one before is unbound. */
    private static void bindsLongChains() {
        LogicHeapCollector x = new LogicHeapCollector(8, 240);
        for (int link = 0; link < 29; link++) {
            x.newVar(1);
            x.newVar(2);
            x.newVar(3);
            x.build(0, 1, 4, 0);
        }
        x.move(7, 3);
        for (int link = 0; link < 29; link++) {
            for (int k = 4; k >= 2; k--) {
                x.getArg(6, 0, k);
                check.due("bind to the one before", x.bind(7, 6), Check.OK);
                x.move(7, 6);
            }
            x.getArg(0, 0, 1);
        }
        check.due("the chain's ends", x.sameVar(3, 7), true);
        check.due("kind(3)", x.kind(3), Check.VAR);
        x.setConst(0, Check.INT, 12);
        check.due("bind the oldest", x.bind(7, 0), Check.OK);
        check.dueTerm("the youngest", x, 3, Check.INT, 12, 0, 1);
    }

    private static void agesFollowTheCallsAfterBacktracking() {
        LogicHeapCollector x = new LogicHeapCollector(4, 32);
        x.newVar(0);
        x.pushChoice();
        x.build(1, 1, 3, 0);
        x.backtrack();
        x.newVar(1);
        x.newVar(2);
        x.bind(1, 2);
        x.bind(1, 0);
        check.due("sameVar(0, 1)", x.sameVar(0, 1), true);
        check.due("sameVar(0, 2)", x.sameVar(0, 2), true);
        x.backtrack();
        check.dueTerm("the oldest stays", x, 0, Check.VAR, 0, 0, 1);
    }

    private static void failsWhereTheVariableOccurs() {
        LogicHeapCollector x = new LogicHeapCollector(6, 64);
        for (int place = 0; place < 4; place++) {
            for (int r = 0; r < 4; r++) {
                x.setConst(r, Check.INT, r);
            }
            x.newVar(place);
            x.move(5, place);
            x.build(4, 2, 4, 0);
            bindFails(x, 5, 4);
            x.build(4, 2, 1, 4);
            bindFails(x, 5, 4);
        }
        x.newVar(0);
        check.due("a variable that does not occur", x.bind(0, 4), Check.OK);
    }

    private static void looksThroughBindingsForTheVariable() {
        LogicHeapCollector x = new LogicHeapCollector(6, 64);
        x.newVar(0);
        x.newVar(1);
        x.bind(1, 0);
        x.build(2, 2, 1, 1);
        bindFails(x, 0, 2);
        bindFails(x, 1, 2);
        x.newVar(3);
        x.build(4, 3, 1, 3);
        x.bind(3, 2);
        bindFails(x, 0, 4);
        x.newVar(5);
        x.bind(5, 4);
        bindFails(x, 0, 5);
        check.due("the variable may still be bound", x.bind(0, 0), Check.OK);
        check.due("kind(0)", x.kind(0), Check.VAR);
    }

    private static void bindFails(LogicHeapCollector x, int v, int t) {
        String call = "bind(" + v + ", " + t + ")";
        String before = Check.state(x);
        check.due(call, x.bind(v, t), Check.FAIL);
        check.dueUnchanged(call, x, before);
    }

    private static void refusesWhatIsNoVariable() {
        LogicHeapCollector x = new LogicHeapCollector(6, 64);
        x.setConst(0, Check.ATOM, 1);
        x.setConst(1, Check.INT, 1);
        x.build(2, 2, 2, 0);
        x.newVar(3);
        x.bind(3, 2);
        x.newVar(4);
        for (int v = 0; v < 4; v++) {
            for (int t = 0; t < 6; t++) {
                bindRefused(x, v, t);
            }
        }
    }

    private static void refusesBadRoots() {
        LogicHeapCollector x = new LogicHeapCollector(3, 16);
        x.newVar(0);
        for (int bad : new int[] {-1, 3, 4, 8, MIN, MAX}) {
            bindRefused(x, bad, 1);
            bindRefused(x, 0, bad);
            bindRefused(x, bad, bad);
        }
    }

    private static void bindRefused(LogicHeapCollector x, int v, int t) {
        String call = "bind(" + v + ", " + t + ")";
        String before = Check.state(x);
        check.due(call, x.bind(v, t), Check.REFUSED);
        check.dueUnchanged(call, x, before);
    }

    private static void keepsToTheTreeLimit() {
        for (int size = 990; size <= 1010; size++) {
            LogicHeapCollector x = new LogicHeapCollector(4, 240);
            x.setConst(0, Check.ATOM, 5);
            Check.grow(x, size);
            x.newVar(3);
            if (size > 1000) {
                bindRefused(x, 3, 1);
            } else {
                check.due("bind to size " + size, x.bind(3, 1), Check.OK);
                check.due("treeSize(3)", x.treeSize(3), size);
            }
        }
    }

    private static void refusesBeforeItFails() {
        for (int size = 990; size <= 1010; size++) {
            LogicHeapCollector x = new LogicHeapCollector(4, 240);
            x.newVar(0);
            Check.grow(x, size);
            if (size > 1000) {
                bindRefused(x, 0, 1);
            } else {
                bindFails(x, 0, 1);
            }
            check.due("the variable within may be bound", x.bind(0, 3), Check.OK);
            check.due("treeSize(1)", x.treeSize(1), size > 1000 ? 1001 : size);
        }
    }

    private static void refusesSizesBeyondInt() {
        LogicHeapCollector x = new LogicHeapCollector(5, 240);
        x.newVar(4);
        x.newVar(0);
        // Each level multiplies the size by four: after 16 levels it is beyond int, after 32 long.
        for (int level = 1; level <= 44; level++) {
            x.move(1, 0);
            x.move(2, 0);
            x.move(3, 0);
            x.build(0, 1, 4, 0);
            if (level >= 5) {
                check.due("treeSize at level " + level, x.treeSize(0), 1001);
                bindRefused(x, 4, 0);
            }
        }
    }
}
