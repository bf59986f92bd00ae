/** Promises 2, 3 and 4: constants, variables and structures. */
final class CreationTest {
    private static final int MIN = Integer.MIN_VALUE;
    private static final int MAX = Integer.MAX_VALUE;
    private static final Check check = new Check();

    public static void main(String[] args) {
        setConstTakesItsBounds();
        setConstRefuses();
        setConstReplacesOneRootOnly();
        newVarMakesApartVariables();
        newVarRefuses();
        newVarKeepsToTheBudget();
        buildTakesItsBounds();
        buildRefuses();
        buildKeepsToTheBudget();
        buildReadsRootsAtTheStart();
        buildSharesItsArguments();
        check.finish();
    }

    private static void setConstTakesItsBounds() {
        LogicHeapCollector x = new LogicHeapCollector(8, 16);
        int[][] rows = {{Check.ATOM, 0}, {Check.ATOM, 1}, {Check.ATOM, 4094}, {Check.ATOM, 4095},
            {Check.INT, -32768}, {Check.INT, -32767}, {Check.INT, -1}, {Check.INT, 0},
            {Check.INT, 1}, {Check.INT, 4096}, {Check.INT, 32766}, {Check.INT, 32767}};
        for (int[] row : rows) {
            for (int r = 0; r < 8; r++) {
                String call = "setConst(" + r + ", " + row[0] + ", " + row[1] + ")";
                check.due(call, x.setConst(r, row[0], row[1]), true);
                check.dueTerm(call, x, r, row[0], row[1], 0, 1);
            }
        }
        check.due("used() after constants", x.used(), 0);
    }

    private static void setConstRefuses() {
        LogicHeapCollector x = Check.mixed();
        for (int r : Check.NO_ROOTS) {
            setConstRefused(x, r, Check.ATOM, 5);
            setConstRefused(x, r, Check.INT, 5);
        }
        setConstRefused(x, 6, Check.ATOM, 5);
        int[] kinds = {Check.NONE, Check.VAR, Check.STRUCT, 5, -1, 10, 11, MIN, MIN + 2, MAX};
        for (int k : kinds) {
            setConstRefused(x, 0, k, 5);
        }
        int[] names = {-1, 4096, 4097, -32768, 32767, 65536, MIN, MAX, 1 << 29};
        for (int v : names) {
            setConstRefused(x, 0, Check.ATOM, v);
        }
        int[] ints = {-32769, 32768, 65536, -65536, MIN, MAX, 1 << 29};
        for (int v : ints) {
            setConstRefused(x, 0, Check.INT, v);
        }
    }

    private static void setConstRefused(LogicHeapCollector x, int r, int k, int v) {
        String call = "setConst(" + r + ", " + k + ", " + v + ")";
        String before = Check.state(x);
        check.due(call, x.setConst(r, k, v), false);
        check.dueUnchanged(call, x, before);
    }

    private static void setConstReplacesOneRootOnly() {
        LogicHeapCollector x = new LogicHeapCollector(3, 16);
        x.newVar(0);
        x.move(1, 0);
        check.due("setConst over a variable", x.setConst(0, Check.ATOM, 9), true);
        check.dueTerm("the constant", x, 0, Check.ATOM, 9, 0, 1);
        check.dueTerm("the variable elsewhere", x, 1, Check.VAR, 0, 0, 1);
        check.due("used() after the variable's root is lost", x.used(), 1);
    }

    private static void newVarMakesApartVariables() {
        LogicHeapCollector x = new LogicHeapCollector(3, 16);
        x.setConst(2, Check.INT, -7);
        check.due("newVar(0)", x.newVar(0), true);
        check.due("used()", x.used(), 1);
        check.due("newVar(1)", x.newVar(1), true);
        check.due("used()", x.used(), 2);
        check.dueTerm("newVar(0)", x, 0, Check.VAR, 0, 0, 1);
        check.dueTerm("newVar(1)", x, 1, Check.VAR, 0, 0, 1);
        check.dueTerm("the other root", x, 2, Check.INT, -7, 0, 1);
        check.due("sameVar(0, 1)", x.sameVar(0, 1), false);
        x.move(2, 0);
        check.due("newVar(0) over a variable", x.newVar(0), true);
        check.due("sameVar(0, 2)", x.sameVar(0, 2), false);
        check.dueTerm("the first variable", x, 2, Check.VAR, 0, 0, 1);
    }

    private static void newVarRefuses() {
        LogicHeapCollector x = Check.mixed();
        for (int r : Check.NO_ROOTS) {
            newVarRefused(x, r);
        }
        newVarRefused(x, 6);
    }

    private static void newVarRefused(LogicHeapCollector x, int r) {
        String before = Check.state(x);
        check.due("newVar(" + r + ")", x.newVar(r), false);
        check.dueUnchanged("newVar(" + r + ")", x, before);
    }

    private static void newVarKeepsToTheBudget() {
        for (int budget = 16; budget <= 240; budget += 8) {
            LogicHeapCollector x = new LogicHeapCollector(2, budget);
            for (int made = 1; made <= budget; made++) {
                check.due("newVar(0) as number " + made + " of " + budget, x.newVar(0), true);
                check.due("used()", x.used(), made);
            }
            newVarRefused(x, 1);
            newVarRefused(x, 0);
        }
    }

    private static void buildTakesItsBounds() {
        for (int roots = 2; roots <= 8; roots++) {
            for (int n = 1; n <= 4 && n <= roots; n++) {
                buildTaken(roots, 0, n, 0);
                buildTaken(roots, 4095, n, roots - n);
            }
        }
    }

    private static void buildTaken(int roots, int f, int n, int first) {
        LogicHeapCollector x = new LogicHeapCollector(roots, 16);
        for (int r = 0; r < roots; r++) {
            x.setConst(r, Check.INT, 100 + r);
        }
        String call = "build(0, " + f + ", " + n + ", " + first + ") of " + roots;
        check.due(call, x.build(0, f, n, first), true);
        check.due(call + ": used()", x.used(), 1 + n);
        check.dueTerm(call, x, 0, Check.STRUCT, f, n, 1 + n);
        for (int r = 1; r < roots; r++) {
            check.dueTerm(call, x, r, Check.INT, 100 + r, 0, 1);
        }
        for (int k = 1; k <= n; k++) {
            check.due(call + ": getArg " + k, x.getArg(1, 0, k), true);
            check.dueTerm(call + ": argument " + k, x, 1, Check.INT, 99 + first + k, 0, 1);
        }
    }

    private static void buildRefuses() {
        LogicHeapCollector x = Check.mixed();
        for (int dst : Check.NO_ROOTS) {
            buildRefused(x, dst, 1, 1, 0);
        }
        buildRefused(x, 6, 1, 1, 0);
        for (int f : new int[] {-1, 4096, MIN, MAX, 1 << 29}) {
            buildRefused(x, 0, f, 1, 0);
        }
        for (int n : new int[] {0, -1, 5, 6, 8, MIN, MAX, MIN + 1}) {
            buildRefused(x, 0, 1, n, 0);
            buildRefused(x, 0, 1, n, 5);
        }
        for (int n = 1; n <= 4; n++) {
            for (int first : new int[] {-1, 7 - n, 6, 8, MIN, MAX, MAX - n, MAX - n + 1}) {
                buildRefused(x, 0, 1, n, first);
            }
        }
        LogicHeapCollector two = new LogicHeapCollector(2, 16);
        for (int first = -3; first <= 3; first++) {
            buildRefused(two, 0, 1, 3, first);
            buildRefused(two, 0, 1, 4, first);
        }
    }

    private static void buildRefused(LogicHeapCollector x, int dst, int f, int n, int first) {
        String call = "build(" + dst + ", " + f + ", " + n + ", " + first + ")";
        String before = Check.state(x);
        check.due(call, x.build(dst, f, n, first), false);
        check.dueUnchanged(call, x, before);
    }

    private static void buildKeepsToTheBudget() {
        for (int n = 1; n <= 4; n++) {
            LogicHeapCollector x = new LogicHeapCollector(4, 16);
            for (int made = 1; made <= 16 - n; made++) {
                x.newVar(0);
            }
            buildRefused(x, 1, 3, n, 0);
            LogicHeapCollector y = new LogicHeapCollector(4, 16);
            for (int made = 1; made < 16 - n; made++) {
                y.newVar(0);
            }
            check.due("build up to the budget", y.build(1, 3, n, 0), true);
            check.due("used() at the budget", y.used(), 16);
            check.due("arity(1)", y.arity(1), n);
            buildRefused(y, 1, 3, 1, 0);
        }
    }

    private static void buildReadsRootsAtTheStart() {
        LogicHeapCollector x = new LogicHeapCollector(2, 32);
        x.setConst(0, Check.ATOM, 11);
        x.setConst(1, Check.ATOM, 12);
        check.due("build(1, 5, 2, 0)", x.build(1, 5, 2, 0), true);
        check.due("build(0, 6, 2, 0)", x.build(0, 6, 2, 0), true);
        check.dueTerm("6(11, 5(11, 12))", x, 0, Check.STRUCT, 6, 2, 5);
        x.getArg(1, 0, 2);
        check.dueTerm("5(11, 12)", x, 1, Check.STRUCT, 5, 2, 3);
        x.getArg(1, 1, 2);
        check.dueTerm("12", x, 1, Check.ATOM, 12, 0, 1);
    }

    private static void buildSharesItsArguments() {
        LogicHeapCollector x = new LogicHeapCollector(4, 32);
        x.newVar(0);
        x.newVar(1);
        x.bind(1, 0);
        x.build(2, 5, 2, 0);
        x.getArg(3, 2, 1);
        check.due("argument 1 is that very variable", x.sameVar(3, 0), true);
        x.getArg(3, 2, 2);
        check.due("argument 2, bound, is seen through", x.sameVar(3, 0), true);
        x.setConst(3, Check.INT, -3);
        x.bind(0, 3);
        x.getArg(3, 2, 2);
        check.dueTerm("argument 2 sees the later binding", x, 3, Check.INT, -3, 0, 1);
        x.setConst(0, Check.ATOM, 1);
        x.getArg(3, 2, 1);
        check.dueTerm("argument 1 outlives its root", x, 3, Check.INT, -3, 0, 1);
    }
}
