/** Promises 8, 9 and 10: choice points. */
final class ChoiceTest {
    private static final Check check = new Check();

    public static void main(String[] args) {
        pushesUpToTheLimit();
        pushChangesNothing();
        backtrackUndoesEverything();
        backtrackStaysAndRepeats();
        backtrackBringsBindingsBack();
        backtrackDropsYoungTermsInOldOnes();
        backtrackFreesTheBudget();
        snapshotsStack();
        popKeepsTheTermState();
        popLeavesTheOlderSnapshot();
        refusesWithoutChoice();
        fullSizeSnapshots();
        check.finish();
    }

    private static void pushesUpToTheLimit() {
        LogicHeapCollector x = new LogicHeapCollector(2, 16);
        for (int round = 0; round < 2; round++) {
            for (int made = 1; made <= 8; made++) {
                x.setConst(0, Check.INT, made);
                check.due("pushChoice() as number " + made, x.pushChoice(), true);
            }
            x.setConst(0, Check.INT, 99);
            String before = Check.state(x);
            check.due("pushChoice() as number 9", x.pushChoice(), false);
            check.due("and once more", x.pushChoice(), false);
            check.dueUnchanged("a refused pushChoice()", x, before);
            for (int left = 8; left >= 1; left--) {
                check.due("backtrack()", x.backtrack(), true);
                check.due("value(0)", x.value(0), left);
                check.due("popChoice()", x.popChoice(), true);
            }
            check.due("popChoice() on none", x.popChoice(), false);
        }
    }

    private static void pushChangesNothing() {
        LogicHeapCollector x = Check.mixed();
        String before = Check.state(x);
        check.due("pushChoice()", x.pushChoice(), true);
        check.dueUnchanged("pushChoice()", x, before);
    }

    private static void backtrackUndoesEverything() {
        LogicHeapCollector x = Check.mixed();
        String before = Check.state(x);
        x.pushChoice();
        x.bind(0, 1);
        x.setConst(2, Check.INT, 31);
        x.bind(1, 2);
        x.build(3, 32, 4, 0);
        x.newVar(4);
        x.move(5, 4);
        check.due("something has changed", Check.state(x).equals(before), false);
        check.due("backtrack()", x.backtrack(), true);
        check.dueUnchanged("backtrack()", x, before);
        x.getArg(2, 4, 1);
        check.due("the structure holds its variable", x.sameVar(2, 0), true);
        check.due("which is unbound", x.bind(0, 3), Check.OK);
    }

    private static void backtrackStaysAndRepeats() {
        LogicHeapCollector x = Check.mixed();
        String before = Check.state(x);
        x.pushChoice();
        for (int round = 0; round < 5; round++) {
            x.newVar(0);
            x.build(1, round, 2, 0);
            check.due("backtrack()", x.backtrack(), true);
            check.dueUnchanged("backtrack()", x, before);
            check.due("backtrack() at once", x.backtrack(), true);
            check.dueUnchanged("backtrack() at once", x, before);
        }
        check.due("popChoice()", x.popChoice(), true);
        check.due("there was one choice point", x.backtrack(), false);
    }

    private static void backtrackBringsBindingsBack() {
        LogicHeapCollector x = new LogicHeapCollector(5, 32);
        x.newVar(0);
        x.newVar(1);
        x.bind(1, 0);
        x.pushChoice();
        x.setConst(2, Check.ATOM, 6);
        x.bind(0, 2);
        x.pushChoice();
        x.setConst(0, Check.INT, 1);
        x.setConst(1, Check.INT, 2);
        x.backtrack();
        check.dueTerm("bound as in the upper snapshot", x, 1, Check.ATOM, 6, 0, 1);
        x.popChoice();
        x.backtrack();
        check.due("bound as in the lower snapshot", x.sameVar(0, 1), true);
        check.dueTerm("root 2 as in the lower snapshot", x, 2, Check.ATOM, 0, 0, 1);
    }

    private static void backtrackDropsYoungTermsInOldOnes() {
        LogicHeapCollector x = new LogicHeapCollector(4, 32);
        x.newVar(0);
        x.build(1, 5, 1, 0);
        x.pushChoice();
        x.newVar(2);
        x.build(3, 6, 1, 2);
        x.bind(0, 3);
        x.setConst(2, Check.INT, 0);
        x.setConst(3, Check.INT, 0);
        check.due("treeSize(1) through the young term", x.treeSize(1), 3);
        x.backtrack();
        check.due("used()", x.used(), 3);
        check.due("treeSize(1)", x.treeSize(1), 2);
        check.dueTerm("the old variable", x, 0, Check.VAR, 0, 0, 1);
        // The same cells serve new terms, which the old variable must not see.
        x.setConst(2, Check.INT, 44);
        x.build(2, 7, 1, 2);
        check.dueTerm("the old variable", x, 0, Check.VAR, 0, 0, 1);
        check.dueTerm("the new structure", x, 2, Check.STRUCT, 7, 1, 2);
    }

    private static void backtrackFreesTheBudget() {
        LogicHeapCollector x = new LogicHeapCollector(2, 16);
        x.newVar(0);
        x.pushChoice();
        for (int round = 0; round < 3; round++) {
            for (int made = 2; made <= 16; made++) {
                check.due("newVar(1) as number " + made, x.newVar(1), true);
            }
            check.due("newVar(1) past the budget", x.newVar(1), false);
            x.backtrack();
            check.due("used()", x.used(), 1);
        }
    }

    private static void snapshotsStack() {
        LogicHeapCollector x = new LogicHeapCollector(8, 240);
        String[] states = new String[8];
        for (int level = 0; level < 8; level++) {
            x.newVar(level);
            x.build((level + 3) % 8, level, 4, level % 5);
            states[level] = Check.state(x);
            x.pushChoice();
            x.setConst((level + 5) % 8, Check.ATOM, level);
            x.bind(level, (level + 5) % 8);
        }
        for (int level = 7; level >= 0; level--) {
            x.backtrack();
            check.dueUnchanged("backtrack() to level " + level, x, states[level]);
            x.popChoice();
            check.dueUnchanged("popChoice() at level " + level, x, states[level]);
        }
    }

    private static void popKeepsTheTermState() {
        LogicHeapCollector x = Check.mixed();
        x.pushChoice();
        x.bind(0, 1);
        x.setConst(2, Check.ATOM, 61);
        x.bind(1, 2);
        x.newVar(3);
        String before = Check.state(x);
        check.due("popChoice()", x.popChoice(), true);
        check.dueUnchanged("popChoice()", x, before);
        check.due("backtrack() to the removed one", x.backtrack(), false);
        check.dueUnchanged("a refused backtrack()", x, before);
    }

    private static void popLeavesTheOlderSnapshot() {
        LogicHeapCollector x = Check.mixed();
        String before = Check.state(x);
        x.pushChoice();
        x.bind(0, 1);
        x.newVar(2);
        x.pushChoice();
        x.setConst(3, Check.INT, 8);
        x.bind(2, 3);
        x.bind(0, 3);
        x.build(4, 3, 3, 0);
        x.popChoice();
        check.dueTerm("bindings outlive the choice point", x, 0, Check.INT, 8, 0, 1);
        check.due("backtrack() to the older one", x.backtrack(), true);
        check.dueUnchanged("backtrack() to the older one", x, before);
        check.due("popChoice()", x.popChoice(), true);
        check.due("popChoice() on none", x.popChoice(), false);
    }

    private static void refusesWithoutChoice() {
        LogicHeapCollector x = Check.mixed();
        String before = Check.state(x);
        check.due("backtrack() on none", x.backtrack(), false);
        check.due("popChoice() on none", x.popChoice(), false);
        check.dueUnchanged("calls without a choice point", x, before);
        check.due("pushChoice() afterwards", x.pushChoice(), true);
        check.due("backtrack() afterwards", x.backtrack(), true);
    }

    private static void fullSizeSnapshots() {
        LogicHeapCollector x = new LogicHeapCollector(8, 240);
        for (int made = 0; made < 48; made++) {
            x.build(made % 8, made, 4, made % 5);
        }
        String before = Check.state(x);
        for (int made = 0; made < 8; made++) {
            x.pushChoice();
            x.setConst(made, Check.INT, made);
        }
        for (int made = 7; made >= 0; made--) {
            x.backtrack();
            if (made > 0) {
                check.due("value(" + (made - 1) + ")", x.value(made - 1), made - 1);
            }
            x.popChoice();
        }
        check.dueUnchanged("eight full snapshots", x, before);
    }
}
