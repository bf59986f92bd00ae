/** Promises 5 and 6: move and getArg share terms and never copy them. */
final class SharingTest {
    private static final int MIN = Integer.MIN_VALUE;
    private static final int MAX = Integer.MAX_VALUE;
    private static final Check check = new Check();

    public static void main(String[] args) {
        moveSharesEveryKind();
        moveToItself();
        moveOfABoundVariable();
        moveRefuses();
        getArgTakesEachArgument();
        getArgOntoItsSource();
        getArgSeesThroughBindings();
        getArgAnswersTheStoredVariable();
        getArgRefuses();
        check.finish();
    }

    private static void moveSharesEveryKind() {
        LogicHeapCollector x = new LogicHeapCollector(6, 64);
        x.newVar(0);
        x.setConst(1, Check.ATOM, 7);
        x.setConst(2, Check.INT, -7);
        x.build(3, 8, 3, 0);
        for (int src = 0; src < 4; src++) {
            check.due("move(5, " + src + ")", x.move(5, src), true);
            check.dueTerm("moved", x, 5, x.kind(src), x.value(src), x.arity(src),
                x.treeSize(src));
        }
        check.dueTerm("the source stays", x, 3, Check.STRUCT, 8, 3, 4);
        check.due("used() after moves", x.used(), 5);
        x.move(5, 0);
        check.due("the very variable", x.sameVar(5, 0), true);
        x.move(4, 1);
        x.bind(5, 4);
        check.dueTerm("a binding through the copy", x, 0, Check.ATOM, 7, 0, 1);
    }

    private static void moveToItself() {
        LogicHeapCollector x = new LogicHeapCollector(3, 16);
        x.newVar(0);
        x.setConst(1, Check.INT, 3);
        x.build(2, 4, 2, 0);
        String before = Check.state(x);
        for (int r = 0; r < 3; r++) {
            check.due("move onto itself", x.move(r, r), true);
            check.dueUnchanged("move onto itself", x, before);
        }
    }

    private static void moveOfABoundVariable() {
        LogicHeapCollector x = new LogicHeapCollector(4, 16);
        x.newVar(0);
        x.newVar(1);
        x.bind(1, 0);
        check.due("move(2, 1)", x.move(2, 1), true);
        check.due("sameVar(2, 0)", x.sameVar(2, 0), true);
        x.setConst(3, Check.ATOM, 5);
        x.bind(0, 3);
        check.dueTerm("through two variables", x, 2, Check.ATOM, 5, 0, 1);
    }

    private static void moveRefuses() {
        LogicHeapCollector x = new LogicHeapCollector(3, 16);
        x.newVar(0);
        String before = Check.state(x);
        for (int bad : new int[] {-1, 3, 4, 8, MIN, MAX}) {
            check.due("move(" + bad + ", 0)", x.move(bad, 0), false);
            check.due("move(1, " + bad + ")", x.move(1, bad), false);
            check.due("move(" + bad + ", " + bad + ")", x.move(bad, bad), false);
            check.dueUnchanged("move with root " + bad, x, before);
        }
    }

    private static void getArgTakesEachArgument() {
        for (int n = 1; n <= 4; n++) {
            LogicHeapCollector x = new LogicHeapCollector(6, 16);
            for (int r = 0; r < 4; r++) {
                x.setConst(r, Check.INT, r - 2);
            }
            x.build(4, 9, n, 0);
            for (int k = 1; k <= n; k++) {
                check.due("getArg(5, 4, " + k + ")", x.getArg(5, 4, k), true);
                check.dueTerm("argument " + k, x, 5, Check.INT, k - 3, 0, 1);
            }
            check.dueTerm("the structure stays", x, 4, Check.STRUCT, 9, n, 1 + n);
            check.due("used() after getArg", x.used(), 1 + n);
            getArgRefused(x, 5, 4, n + 1);
            getArgRefused(x, 5, 4, 0);
        }
    }

    private static void getArgOntoItsSource() {
        LogicHeapCollector x = new LogicHeapCollector(2, 16);
        x.setConst(0, Check.ATOM, 3);
        x.build(0, 4, 1, 0);
        x.build(0, 5, 1, 0);
        check.due("getArg(0, 0, 1)", x.getArg(0, 0, 1), true);
        check.dueTerm("4(3)", x, 0, Check.STRUCT, 4, 1, 2);
        check.due("getArg(0, 0, 1)", x.getArg(0, 0, 1), true);
        check.dueTerm("3", x, 0, Check.ATOM, 3, 0, 1);
        getArgRefused(x, 0, 0, 1);
    }

    private static void getArgSeesThroughBindings() {
        LogicHeapCollector x = new LogicHeapCollector(4, 32);
        x.newVar(0);
        x.newVar(1);
        x.bind(0, 1);
        x.setConst(2, Check.INT, 6);
        x.build(2, 7, 1, 2);
        x.bind(1, 2);
        check.due("getArg through two variables", x.getArg(3, 1, 1), true);
        check.dueTerm("the argument", x, 3, Check.INT, 6, 0, 1);
    }

    private static void getArgAnswersTheStoredVariable() {
        LogicHeapCollector x = new LogicHeapCollector(4, 32);
        x.newVar(0);
        x.build(1, 7, 1, 0);
        x.getArg(2, 1, 1);
        check.due("sameVar(2, 0)", x.sameVar(2, 0), true);
        x.setConst(3, Check.ATOM, 8);
        x.bind(2, 3);
        check.dueTerm("bound through the argument", x, 0, Check.ATOM, 8, 0, 1);
        check.dueTerm("the structure sees it", x, 1, Check.STRUCT, 7, 1, 2);
    }

    private static void getArgRefuses() {
        LogicHeapCollector x = new LogicHeapCollector(5, 32);
        x.newVar(0);
        x.setConst(1, Check.ATOM, 1);
        x.setConst(2, Check.INT, 1);
        x.build(3, 6, 2, 0);
        for (int bad : new int[] {-1, 5, 6, 8, MIN, MAX}) {
            getArgRefused(x, bad, 3, 1);
            getArgRefused(x, 0, bad, 1);
        }
        for (int src = 0; src < 3; src++) {
            for (int k = 0; k <= 4; k++) {
                getArgRefused(x, 4, src, k);
            }
        }
        for (int k : new int[] {-1, 0, 3, 4, 5, MIN, MAX}) {
            getArgRefused(x, 4, 3, k);
        }
        x.newVar(4);
        x.bind(4, 2);
        getArgRefused(x, 0, 4, 1);
    }

    private static void getArgRefused(LogicHeapCollector x, int dst, int src, int k) {
        String call = "getArg(" + dst + ", " + src + ", " + k + ")";
        String before = Check.state(x);
        check.due(call, x.getArg(dst, src, k), false);
        check.dueUnchanged(call, x, before);
    }
}
