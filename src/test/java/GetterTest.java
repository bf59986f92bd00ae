/** Promises 12 to 17: the getters. */
final class GetterTest {
    private static final Check check = new Check();

    public static void main(String[] args) {
        eachKindOfTerm();
        termsBehindBindings();
        rootsThatAreNone();
        sameVarNeedsOneUnboundVariable();
        treeSizeCountsEveryOccurrence();
        treeSizeStopsAtTheLimit();
        treeSizeFollowsBindings();
        usedCountsCreationsOnly();
        gettersChangeNothing();
        check.finish();
    }

    private static void eachKindOfTerm() {
        LogicHeapCollector x = sample();
        check.dueTerm("variable", x, 0, Check.VAR, 0, 0, 1);
        check.dueTerm("atom", x, 1, Check.ATOM, 4095, 0, 1);
        check.dueTerm("integer", x, 2, Check.INT, -32768, 0, 1);
        check.dueTerm("structure", x, 3, Check.STRUCT, 12, 3, 4);
        for (int n = 1; n <= 4; n++) {
            x.build(4, 4095 - n, n, 0);
            check.due("arity(4)", x.arity(4), n);
            check.due("value(4)", x.value(4), 4095 - n);
        }
    }

    private static void termsBehindBindings() {
        LogicHeapCollector x = sample();
        for (int t = 1; t <= 3; t++) {
            x.newVar(4);
            x.newVar(5);
            x.bind(4, 5);
            x.bind(4, t);
            for (int r = 4; r <= 5; r++) {
                check.dueTerm("behind variables", x, r, x.kind(t), x.value(t), x.arity(t),
                    x.treeSize(t));
            }
        }
    }

    private static void rootsThatAreNone() {
        LogicHeapCollector x = new LogicHeapCollector(3, 32);
        for (int r = 0; r < 3; r++) {
            x.newVar(r);
        }
        x.build(2, 9, 3, 0);
        x.setConst(1, Check.INT, 5);
        int[] none = {-1, 3, 4, 7, 8, 9, 256, Integer.MIN_VALUE, Integer.MAX_VALUE};
        for (int r : none) {
            check.dueTerm("no root", x, r, Check.NONE, 0, 0, 0);
            check.due("sameVar(0, " + r + ")", x.sameVar(0, r), false);
            check.due("sameVar(" + r + ", 0)", x.sameVar(r, 0), false);
            check.due("sameVar(" + r + ", " + r + ")", x.sameVar(r, r), false);
        }
    }

    private static void sameVarNeedsOneUnboundVariable() {
        LogicHeapCollector x = sample();
        check.due("sameVar(0, 0)", x.sameVar(0, 0), true);
        for (int r = 1; r <= 3; r++) {
            x.move(4, r);
            check.due("equal terms that are no variables", x.sameVar(r, 4), false);
            check.due("sameVar(" + r + ", " + r + ")", x.sameVar(r, r), false);
            check.due("sameVar(0, " + r + ")", x.sameVar(0, r), false);
        }
        x.newVar(4);
        check.due("two variables", x.sameVar(0, 4), false);
        x.bind(4, 0);
        check.due("bound together", x.sameVar(0, 4), true);
        check.due("the other way round", x.sameVar(4, 0), true);
        x.bind(0, 1);
        check.due("bound to one atom", x.sameVar(0, 4), false);
        check.due("one bound root", x.sameVar(4, 4), false);
    }

    private static void treeSizeCountsEveryOccurrence() {
        LogicHeapCollector x = new LogicHeapCollector(4, 64);
        x.newVar(0);
        x.move(1, 0);
        x.build(0, 1, 2, 0);
        check.due("f(X, X)", x.treeSize(0), 3);
        x.move(1, 0);
        x.build(0, 1, 2, 0);
        check.due("g(f(X, X), f(X, X))", x.treeSize(0), 7);
        x.build(2, 1, 2, 0);
        check.due("h(g, f)", x.treeSize(2), 11);
    }

    private static void treeSizeStopsAtTheLimit() {
        for (int size = 1; size <= 1100; size++) {
            LogicHeapCollector x = new LogicHeapCollector(3, 240);
            x.setConst(0, Check.INT, 1);
            Check.grow(x, size);
            int want = size > 1000 ? 1001 : size;
            check.due("treeSize of a term of size " + size, x.treeSize(1), want);
        }
        for (int n = 2; n <= 4; n++) {
            treeSizeOfTowers(n);
        }
    }

    /** Towers of n twins pass the int range, and for 4 twins the long range too. */
    private static void treeSizeOfTowers(int n) {
        LogicHeapCollector x = new LogicHeapCollector(4, 240);
        int size = 1;
        for (int level = 1; level <= 240 / (1 + n); level++) {
            for (int r = 1; r < n; r++) {
                x.move(r, 0);
            }
            x.build(0, 2, n, 0);
            size = size > 1000 ? 1001 : n * size + 1;
            check.due("treeSize of a tower", x.treeSize(0), size > 1000 ? 1001 : size);
        }
    }

    private static void treeSizeFollowsBindings() {
        LogicHeapCollector x = new LogicHeapCollector(4, 64);
        x.newVar(0);
        x.move(1, 0);
        x.build(2, 1, 2, 0);
        x.setConst(3, Check.ATOM, 1);
        x.build(3, 2, 1, 3);
        check.due("f(X, X)", x.treeSize(2), 3);
        x.bind(0, 3);
        check.due("f(g(1), g(1))", x.treeSize(2), 5);
        check.due("X", x.treeSize(0), 2);
    }

    private static void usedCountsCreationsOnly() {
        LogicHeapCollector x = sample();
        check.due("used()", x.used(), 5);
        x.bind(0, 1);
        x.setConst(1, Check.INT, 2);
        x.move(2, 3);
        x.getArg(5, 3, 2);
        x.pushChoice();
        x.collect();
        Check.state(x);
        x.newVar(9);
        x.build(0, 1, 5, 0);
        check.due("used() after calls that create nothing", x.used(), 5);
        x.newVar(0);
        check.due("used() after newVar", x.used(), 6);
        for (int n = 1; n <= 4; n++) {
            int before = x.used();
            x.build(0, 1, n, 0);
            check.due("used() after build", x.used(), before + 1 + n);
        }
        int full = x.used();
        x.popChoice();
        check.due("used() after popChoice", x.used(), full);
    }

    private static void gettersChangeNothing() {
        LogicHeapCollector x = sample();
        x.newVar(4);
        x.bind(4, 3);
        String before = Check.state(x);
        for (int round = 0; round < 3; round++) {
            check.dueUnchanged("getters", x, before);
        }
    }

    /** A variable, an atom, an integer, and a structure over the three. */
    private static LogicHeapCollector sample() {
        LogicHeapCollector x = new LogicHeapCollector(6, 64);
        x.newVar(0);
        x.setConst(1, Check.ATOM, 4095);
        x.setConst(2, Check.INT, -32768);
        x.build(3, 12, 3, 0);
        return x;
    }
}
