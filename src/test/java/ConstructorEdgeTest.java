/** Promise 1, sentence by sentence. */
final class ConstructorEdgeTest {
    private static final int MIN = Integer.MIN_VALUE;
    private static final int MAX = Integer.MAX_VALUE;
    private static final int[] EXTREMES = {MIN, MIN + 1, -65536, -256, -1, 0, 1, 256, 65536,
        1 << 30, MAX - 1, MAX};
    private static final Check check = new Check();

    public static void main(String[] args) {
        fewRootsBecomeTwo();
        manyRootsBecomeEight();
        rootsBetweenStay();
        smallBudgetsBecomeSixteen();
        greatBudgetsBecomeTheGreatest();
        budgetsBetweenStay();
        anyIntIsTaken();
        rootsAndBudgetStayForLife();
        everyRootHoldsAtomZero();
        nothingIsUsed();
        thereAreNoChoicePoints();
        check.finish();
    }

    private static void fewRootsBecomeTwo() {
        check.sentence("`R` is `roots` clamped into `MIN_ROOTS..MAX_ROOTS`: below 2 becomes 2");
        for (int roots : new int[] {1, 0, -1, -2, -8, MIN + 2, MIN + 5, MIN + 1, MIN}) {
            rootsAre(roots, 2);
        }
    }

    private static void manyRootsBecomeEight() {
        check.sentence("above 8 becomes 8");
        for (int roots : new int[] {9, 10, 16, 256, 260, 65536, 65540, MAX - 1, MAX}) {
            rootsAre(roots, 8);
        }
    }

    private static void rootsBetweenStay() {
        check.sentence("otherwise `R = roots`");
        for (int roots = 2; roots <= 8; roots++) {
            rootsAre(roots, roots);
        }
    }

    private static void rootsAre(int given, int want) {
        LogicHeapCollector x = new LogicHeapCollector(given, 16);
        String what = "new (" + given + ", 16): ";
        check.due(what + "kind(-1)", x.kind(-1), Check.NONE);
        for (int r = 0; r <= 8; r++) {
            check.due(what + "kind(" + r + ")", x.kind(r), r < want ? Check.ATOM : Check.NONE);
            check.due(what + "move(" + r + ", 0)", x.move(r, 0), r < want);
        }
    }

    private static void smallBudgetsBecomeSixteen() {
        check.sentence("`B` is `budget` clamped into `MIN_BUDGET..MAX_BUDGET`: below 16 becomes "
            + "16");
        for (int budget : new int[] {15, 14, 1, 0, -1, -16, -100, MIN + 100, MIN + 1, MIN}) {
            budgetIs(budget, 16);
        }
    }

    private static void greatBudgetsBecomeTheGreatest() {
        check.sentence("above 240 becomes 240");
        for (int budget : new int[] {241, 242, 255, 256, 300, 65636, 1 << 30, MAX - 1, MAX}) {
            budgetIs(budget, 240);
        }
    }

    private static void budgetsBetweenStay() {
        check.sentence("otherwise `B = budget`");
        for (int budget = 16; budget <= 240; budget++) {
            budgetIs(budget, budget);
        }
    }

    private static void budgetIs(int given, int want) {
        LogicHeapCollector x = new LogicHeapCollector(2, given);
        int made = 0;
        while (made < 300 && x.newVar(0)) {
            made++;
        }
        check.due("new (2, " + given + "): variables that fit", made, want);
        check.due("new (2, " + given + "): used() when full", x.used(), want);
    }

    private static void anyIntIsTaken() {
        check.sentence("Any int values are accepted, including negative and extreme ones.");
        for (int roots : EXTREMES) {
            for (int budget : EXTREMES) {
                LogicHeapCollector x = new LogicHeapCollector(roots, budget);
                int last = roots < 2 ? 1 : 7;
                int fit = budget < 16 ? 16 : 240;
                String what = "new (" + roots + ", " + budget + "): ";
                check.due(what + "the last root", x.kind(last), Check.ATOM);
                check.due(what + "the root after it", x.kind(last + 1), Check.NONE);
                for (int made = 1; made <= fit; made++) {
                    check.due(what + "newVar as number " + made, x.newVar(last), true);
                }
                check.due(what + "newVar past the budget", x.newVar(last), false);
            }
        }
    }

    private static void rootsAndBudgetStayForLife() {
        check.sentence("fixes `R` and `B` for the life of the object");
        LogicHeapCollector x = new LogicHeapCollector(3, 20);
        new LogicHeapCollector(8, 240);
        x.pushChoice();
        for (int round = 0; round < 10; round++) {
            for (int made = 1; made <= 20; made++) {
                check.due("newVar as number " + made, x.newVar(2), true);
            }
            check.due("newVar as number 21", x.newVar(2), false);
            check.due("kind(3)", x.kind(3), Check.NONE);
            x.collect();
            x.backtrack();
        }
    }

    private static void everyRootHoldsAtomZero() {
        check.sentence("Hence for every valid root `r`: `kind(r) = KIND_ATOM`, `value(r) = 0`, "
            + "`arity(r) = 0`, `treeSize(r) = 1`.");
        for (int roots = 2; roots <= 8; roots++) {
            LogicHeapCollector x = new LogicHeapCollector(roots, 16);
            for (int r = 0; r < roots; r++) {
                check.dueTerm("new (" + roots + ", 16)", x, r, Check.ATOM, 0, 0, 1);
                check.due("sameVar(" + r + ", " + r + ")", x.sameVar(r, r), false);
                check.due("bind(" + r + ", 0)", x.bind(r, 0), Check.REFUSED);
            }
        }
    }

    private static void nothingIsUsed() {
        check.sentence("no variable exists, `used() = 0`");
        for (int budget : EXTREMES) {
            check.due("new (2, " + budget + "): used()",
                new LogicHeapCollector(2, budget).used(), 0);
        }
    }

    private static void thereAreNoChoicePoints() {
        check.sentence("and there are no choice points");
        for (int roots : EXTREMES) {
            LogicHeapCollector x = new LogicHeapCollector(roots, roots);
            check.due("new (" + roots + "): backtrack()", x.backtrack(), false);
            check.due("new (" + roots + "): popChoice()", x.popChoice(), false);
        }
        check.due("choice points that fit", Scene.fresh().choicesThatFit(), 8);
    }
}
