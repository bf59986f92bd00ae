/** Promise 1: the constructor clamps its arguments, and every object starts the same. */
final class InitialStateTest {
    private static final Check check = new Check();

    public static void main(String[] args) {
        int[][] roots = {{Integer.MIN_VALUE, 2}, {-1, 2}, {0, 2}, {1, 2}, {2, 2}, {3, 3}, {5, 5},
            {7, 7}, {8, 8}, {9, 8}, {100, 8}, {Integer.MAX_VALUE, 8}};
        for (int[] row : roots) {
            rootsAre(row[0], row[1]);
        }
        int[][] budgets = {{Integer.MIN_VALUE, 16}, {-1, 16}, {0, 16}, {15, 16}, {16, 16},
            {17, 17}, {100, 100}, {239, 239}, {240, 240}, {241, 240}, {Integer.MAX_VALUE, 240}};
        for (int[] row : budgets) {
            budgetIs(row[0], row[1]);
        }
        nothingIsChosen();
        objectsAreApart();
        check.finish();
    }

    private static void rootsAre(int given, int want) {
        LogicHeapCollector x = new LogicHeapCollector(given, 16);
        for (int r = 0; r < want; r++) {
            check.dueTerm("new (" + given + ", 16)", x, r, Check.ATOM, 0, 0, 1);
        }
        check.due("new (" + given + ", 16): kind(" + want + ")", x.kind(want), Check.NONE);
        check.due("new (" + given + ", 16): used()", x.used(), 0);
    }

    private static void budgetIs(int given, int want) {
        LogicHeapCollector x = new LogicHeapCollector(2, given);
        int made = 0;
        while (made <= 300 && x.newVar(0)) {
            made++;
        }
        check.due("new (2, " + given + "): variables that fit", made, want);
        check.due("new (2, " + given + "): used() when full", x.used(), want);
    }

    private static void nothingIsChosen() {
        LogicHeapCollector x = new LogicHeapCollector(4, 64);
        check.due("new: backtrack()", x.backtrack(), false);
        check.due("new: popChoice()", x.popChoice(), false);
    }

    private static void objectsAreApart() {
        LogicHeapCollector x = new LogicHeapCollector(2, 16);
        LogicHeapCollector y = new LogicHeapCollector(2, 16);
        String before = Check.state(y);
        x.newVar(0);
        x.setConst(1, Check.INT, 5);
        x.pushChoice();
        check.dueUnchanged("calls on another object", y, before);
        check.due("other object: backtrack()", y.backtrack(), false);
    }
}
