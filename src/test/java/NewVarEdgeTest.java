/** Promise 3, sentence by sentence. */
final class NewVarEdgeTest {
    private static final Check check = new Check();

    public static void main(String[] args) {
        needsAValidRoot();
        lastCellIsTaken();
        refusesAtTheBudget();
        makesAnUnboundVariableOfItsOwn();
        isTheYoungest();
        usesOneCell();
        changesOneRootOnly();
        check.finish();
    }

    private static void needsAValidRoot() {
        check.sentence("(1) `r` is a valid root");
        for (Scene scene : Scene.all()) {
            for (int r : Check.noRoots(scene.roots)) {
                check.refuses(scene, Call.newVar(r));
            }
        }
        for (int roots = 2; roots <= 8; roots++) {
            LogicHeapCollector x = new LogicHeapCollector(roots, 16);
            check.due("newVar(0) of " + roots, x.newVar(0), true);
            check.due("newVar(" + (roots - 1) + ") of " + roots, x.newVar(roots - 1), true);
            check.due("newVar(" + roots + ") of " + roots, x.newVar(roots), false);
        }
    }

    private static void lastCellIsTaken() {
        check.sentence("(2) `used() + 1 <= B`");
        for (int budget : new int[] {16, 17, 100, 239, 240}) {
            LogicHeapCollector x = filled(budget, budget - 1);
            check.due("newVar(1) at used() " + (budget - 1), x.newVar(1), true);
            check.due("used()", x.used(), budget);
            check.dueTerm("the last variable", x, 1, Check.VAR, 0, 0, 1);
            check.due("bind(1, 2)", x.bind(1, 2), Check.OK);
            check.dueTerm("the last variable", x, 1, x.kind(2), x.value(2), x.arity(2),
                x.treeSize(2));
        }
    }

    private static void refusesAtTheBudget() {
        check.sentence("When `used() = B` the call is refused.");
        for (int budget : new int[] {16, 17, 100, 239, 240}) {
            Scene full = new Scene("budget " + budget + " used up", 3,
                () -> filled(budget, budget));
            for (int r = 0; r < 3; r++) {
                check.refuses(full, Call.newVar(r));
            }
        }
        for (int r = 0; r < 3; r++) {
            check.refuses(Scene.fullBudget(), Call.newVar(r));
            check.refuses(Scene.fullBudget().after(Call.collect()), Call.newVar(r));
        }
    }

    /** Structures first, then variables, with used() at this count. */
    private static LogicHeapCollector filled(int budget, int used) {
        LogicHeapCollector x = new LogicHeapCollector(3, budget);
        x.setConst(2, Check.INT, -1);
        for (int made = 0; made < used / 4; made++) {
            x.build(2, made, 3, 0);
        }
        for (int made = 0; made < used % 4; made++) {
            x.newVar(0);
        }
        return x;
    }

    private static void makesAnUnboundVariableOfItsOwn() {
        check.sentence("a new unbound variable is created");
        for (Scene scene : Scene.all()) {
            LogicHeapCollector x = scene.make();
            if (x.newVar(1)) {
                check.dueTerm(scene.name + ": the variable", x, 1, Check.VAR, 0, 0, 1);
                for (int r = 0; r < scene.roots; r++) {
                    check.due(scene.name + ": sameVar(1, " + r + ")", x.sameVar(1, r), r == 1);
                }
            }
        }
        LogicHeapCollector x = new LogicHeapCollector(8, 240);
        for (int made = 0; made < 240; made++) {
            check.due("newVar as number " + made, x.newVar(made % 8), true);
            for (int r = 0; r < 8; r++) {
                check.due("sameVar", x.sameVar(made % 8, r), r == made % 8);
            }
        }
    }

    /** No call tells ages; what shows is that bound together they are one unbound variable. */
    private static void isTheYoungest() {
        check.sentence("it is the youngest variable");
        LogicHeapCollector x = new LogicHeapCollector(8, 16);
        for (int r = 0; r < 8; r++) {
            x.newVar(r);
        }
        x.pushChoice();
        for (int r = 7; r >= 1; r--) {
            check.due("bind(" + r + ", 0)", x.bind(r % 2 == 0 ? r : 0, r % 2 == 0 ? 0 : r),
                Check.OK);
            check.due("sameVar(" + r + ", 0)", x.sameVar(r, 0), true);
        }
        check.dueTerm("the oldest", x, 0, Check.VAR, 0, 0, 1);
    }

    private static void usesOneCell() {
        check.sentence("Root `r` holds it, and `used()` grows by 1.");
        LogicHeapCollector x = new LogicHeapCollector(2, 240);
        for (int made = 1; made <= 240; made++) {
            check.due("newVar as number " + made, x.newVar(made % 2), true);
            check.due("used()", x.used(), made);
        }
    }

    private static void changesOneRootOnly() {
        check.sentence("Unchanged: every other root, every existing variable and binding, the "
            + "choice points.");
        for (Scene scene : Scene.all()) {
            if (scene.make().newVar(0)) {
                for (int r = 0; r < scene.roots; r++) {
                    check.setsRoot(scene, Call.newVar(r), r, 1);
                }
            }
        }
    }
}
