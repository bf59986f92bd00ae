import java.util.ArrayList;
import java.util.List;

/** Promise 9, sentence by sentence. */
final class BacktrackEdgeTest {
    private static final Check check = new Check();

    public static void main(String[] args) {
        refusesWithoutChoicePoint();
        returnsToTheTopSnapshot();
        creationsCeaseToExist();
        bindingsSinceAreUndone();
        bindingsOfThenArePresentAgain();
        rootsHoldWhatTheyHeld();
        usedIsWhatItWas();
        choicePointStays();
        againAtOnceChangesNothing();
        youngTermsInOldOnesAreGone();
        freedCellsServeAgain();
        check.finish();
    }

    private static void refusesWithoutChoicePoint() {
        check.sentence("With no choice point the call is refused.");
        check.refuses(Scene.fresh(), Call.backtrack());
        for (Scene scene : List.of(Scene.mixed(), Scene.fullBudget(), Scene.fullStack())) {
            check.refuses(withoutChoices(scene), Call.backtrack());
            check.refuses(withoutChoices(scene).after(Call.backtrack()), Call.backtrack());
        }
    }

    private static Scene withoutChoices(Scene scene) {
        Scene popped = scene;
        for (int left = scene.levels().size() - 1; left >= 1; left--) {
            popped = popped.after(Call.popChoice());
        }
        return popped;
    }

    private static void returnsToTheTopSnapshot() {
        check.sentence("the term state returns to the top snapshot");
        for (Scene scene : List.of(Scene.mixed(), Scene.fullBudget(), Scene.fullStack())) {
            Scene back = scene.after(Call.backtrack());
            check.due(scene.name + ": backtrack()", scene.make().backtrack(), true);
            List<String> want = new ArrayList<>(scene.levels());
            want.set(0, want.get(1));
            check.dueLevels(back, want);
        }
        // The states as they were at each push, apart from any backtrack.
        LogicHeapCollector x = new LogicHeapCollector(8, 240);
        String[] states = new String[8];
        for (int level = 0; level < 8; level++) {
            x.newVar(level);
            x.build((level + 3) % 8, level, 4, level % 5);
            states[level] = Check.state(x);
            x.pushChoice();
            x.setConst((level + 5) % 8, Check.ATOM, level);
            x.bind(level, (level + 5) % 8);
        }
        for (int level = 7; level >= 0; level--) {
            check.due("backtrack() to level " + level, x.backtrack(), true);
            check.dueUnchanged("backtrack() to level " + level, x, states[level]);
            x.popChoice();
        }
    }

    private static void creationsCeaseToExist() {
        check.sentence("every variable and structure created since then ceases to exist");
        for (int created = 1; created <= 16; created++) {
            LogicHeapCollector x = new LogicHeapCollector(2, 16);
            x.pushChoice();
            for (int made = 0; made < created; made++) {
                x.newVar(made % 2);
            }
            x.backtrack();
            check.due("used()", x.used(), 0);
            check.dueTerm("root 0", x, 0, Check.ATOM, 0, 0, 1);
            check.dueTerm("root 1", x, 1, Check.ATOM, 0, 0, 1);
        }
        LogicHeapCollector x = new LogicHeapCollector(4, 16);
        x.newVar(0);
        x.pushChoice();
        x.build(1, 5, 4, 0);
        x.build(0, 6, 4, 0);
        x.backtrack();
        check.due("used()", x.used(), 1);
        check.dueTerm("root 0", x, 0, Check.VAR, 0, 0, 1);
        check.dueTerm("root 1", x, 1, Check.ATOM, 0, 0, 1);
    }

    private static void bindingsSinceAreUndone() {
        check.sentence("every older variable is bound exactly as in the snapshot (bindings made "
            + "since are undone");
        LogicHeapCollector x = new LogicHeapCollector(8, 64);
        for (int r = 0; r < 6; r++) {
            x.newVar(r);
        }
        x.build(6, 7, 4, 0);
        x.pushChoice();
        String before = Check.state(x);
        x.bind(0, 7);
        x.bind(1, 6);
        x.bind(2, 3);
        x.bind(5, 4);
        x.newVar(7);
        x.bind(4, 7);
        x.backtrack();
        check.dueUnchanged("backtrack()", x, before);
        for (int r = 0; r < 6; r++) {
            check.due("bind(" + r + ", 7)", x.bind(r, 7), Check.OK);
        }
    }

    private static void bindingsOfThenArePresentAgain() {
        check.sentence("bindings that existed then are present again");
        LogicHeapCollector x = new LogicHeapCollector(4, 32);
        x.newVar(0);
        x.newVar(1);
        x.build(2, 5, 2, 0);
        x.pushChoice();
        x.setConst(3, Check.INT, 3);
        x.bind(0, 3);
        x.setConst(3, Check.ATOM, 4);
        x.bind(1, 3);
        x.pushChoice();
        x.popChoice();
        x.pushChoice();
        for (int r = 0; r < 4; r++) {
            x.newVar(r);
        }
        x.backtrack();
        check.dueTerm("root 0", x, 0, Check.INT, 3, 0, 1);
        check.dueTerm("root 1", x, 1, Check.ATOM, 4, 0, 1);
        x.getArg(3, 2, 1);
        check.dueTerm("argument 1", x, 3, Check.INT, 3, 0, 1);
        x.getArg(3, 2, 2);
        check.dueTerm("argument 2", x, 3, Check.ATOM, 4, 0, 1);
        x.popChoice();
        x.backtrack();
        check.due("kind(0) at the lower snapshot", x.kind(0), Check.VAR);
        check.due("kind(1) at the lower snapshot", x.kind(1), Check.VAR);
    }

    private static void rootsHoldWhatTheyHeld() {
        check.sentence("every root holds what it held then");
        for (int roots = 2; roots <= 8; roots++) {
            LogicHeapCollector x = new LogicHeapCollector(roots, 32);
            for (int r = 0; r < roots; r++) {
                x.setConst(r, r % 2 == 0 ? Check.ATOM : Check.INT, 50 + r);
            }
            x.pushChoice();
            for (int r = 0; r < roots; r++) {
                x.newVar(r);
            }
            x.backtrack();
            for (int r = 0; r < roots; r++) {
                check.dueTerm("root " + r + " of " + roots, x, r,
                    r % 2 == 0 ? Check.ATOM : Check.INT, 50 + r, 0, 1);
            }
        }
    }

    private static void usedIsWhatItWas() {
        check.sentence("`used()` is what it was then");
        for (int then = 0; then <= 16; then++) {
            LogicHeapCollector x = new LogicHeapCollector(2, 16);
            for (int made = 0; made < then; made++) {
                x.newVar(0);
            }
            x.pushChoice();
            for (int made = then; made < 16; made++) {
                x.newVar(1);
            }
            check.due("backtrack()", x.backtrack(), true);
            check.due("used()", x.used(), then);
        }
    }

    private static void choicePointStays() {
        check.sentence("The choice point stays on the stack; the number of choice points does not "
            + "change.");
        for (int choices = 1; choices <= 8; choices++) {
            LogicHeapCollector x = new LogicHeapCollector(2, 16);
            for (int made = 0; made < choices; made++) {
                x.pushChoice();
            }
            for (int round = 0; round < 20; round++) {
                check.due("backtrack() over " + choices, x.backtrack(), true);
            }
            for (int left = choices; left >= 1; left--) {
                check.due("popChoice() with " + left + " left", x.popChoice(), true);
            }
            check.due("popChoice() with none left", x.popChoice(), false);
        }
    }

    private static void againAtOnceChangesNothing() {
        check.sentence("Calling `backtrack` again at once changes nothing further and answers "
            + "`true`.");
        for (Scene scene : List.of(Scene.mixed(), Scene.fullBudget(), Scene.fullStack())) {
            Scene back = scene.after(Call.backtrack());
            check.keeps(back, Call.backtrack(), true);
            check.keeps(back.after(Call.backtrack()), Call.backtrack(), true);
        }
    }

    private static void youngTermsInOldOnesAreGone() {
        check.sentence("Variables created after the snapshot and later made reachable only through "
            + "older terms are gone as well, with every binding to them undone.");
        Scene then = new Scene("an old structure", 5, () -> {
            LogicHeapCollector x = new LogicHeapCollector(5, 32);
            x.newVar(0);
            x.newVar(1);
            x.build(2, 5, 2, 0);
            x.pushChoice();
            return x;
        });
        Scene now = then.after(Call.newVar(3), Call.build(4, 6, 1, 3), Call.bind(0, 4),
            Call.newVar(3), Call.build(4, 7, 2, 3), Call.bind(1, 4),
            Call.setConst(0, Check.ATOM, 1), Call.setConst(1, Check.ATOM, 1),
            Call.setConst(3, Check.ATOM, 1), Call.setConst(4, Check.ATOM, 1));
        check.due("treeSize(2) over young terms", now.make().treeSize(2), 7);
        check.dueLevels(now.after(Call.backtrack()), then.levels());
        // Other terms in the same cells must not show through.
        LogicHeapCollector x = now.after(Call.backtrack(), Call.newVar(3),
            Call.setConst(4, Check.INT, 9), Call.build(4, 8, 2, 3)).make();
        check.due("kind(0)", x.kind(0), Check.VAR);
        check.due("kind(1)", x.kind(1), Check.VAR);
        check.due("treeSize(2)", x.treeSize(2), 3);
        check.due("sameVar(0, 3)", x.sameVar(0, 3), false);
        check.due("sameVar(1, 3)", x.sameVar(1, 3), false);
    }

    private static void freedCellsServeAgain() {
        check.sentence("`used()` is the number of cells used by creations not discarded by "
            + "backtracking.");
        LogicHeapCollector x = new LogicHeapCollector(4, 16);
        x.newVar(0);
        x.pushChoice();
        for (int round = 0; round < 50; round++) {
            for (int made = 0; made < 3; made++) {
                check.due("build", x.build(1, round, 4, 0), true);
            }
            check.due("used() at the budget", x.used(), 16);
            check.due("newVar(2) past the budget", x.newVar(2), false);
            check.due("backtrack()", x.backtrack(), true);
            check.due("used()", x.used(), 1);
        }
    }
}
