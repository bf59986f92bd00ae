import java.util.List;

/** Promise 17, sentence by sentence. */
final class UsedEdgeTest {
    private static final Check check = new Check();

    public static void main(String[] args) {
        liesBetweenZeroAndTheBudget();
        growsByOneWithNewVar();
        growsWithBuild();
        returnsThroughBacktrackOnly();
        isKeptByEveryOtherCall();
        isKeptByRefusedCalls();
        changesNothing();
        check.finish();
    }

    private static void liesBetweenZeroAndTheBudget() {
        check.sentence("It is always between 0 and `B`.");
        for (int budget : new int[] {Integer.MIN_VALUE, 15, 16, 17, 239, 240, 241,
            Integer.MAX_VALUE}) {
            int want = Math.max(16, Math.min(240, budget));
            LogicHeapCollector x = new LogicHeapCollector(4, budget);
            check.due("used() at first", x.used(), 0);
            x.pushChoice();
            for (int made = 0; made < 300; made++) {
                x.build(0, 1, 4, 0);
                x.build(0, 1, 1 + made % 4, 0);
                check.due("used() within the budget", 0 <= x.used() && x.used() <= want, true);
            }
            for (int made = 0; made < 10; made++) {
                x.newVar(0);
            }
            check.due("used() at the budget", x.used(), want);
            x.backtrack();
            check.due("used() at the snapshot", x.used(), 0);
        }
    }

    private static void growsByOneWithNewVar() {
        check.sentence("It grows only through `newVar` (by 1)");
        LogicHeapCollector x = new LogicHeapCollector(2, 240);
        for (int made = 1; made <= 240; made++) {
            x.newVar(0);
            check.due("used()", x.used(), made);
        }
        x.newVar(0);
        check.due("used() after a refused newVar", x.used(), 240);
    }

    private static void growsWithBuild() {
        check.sentence("and `build` (by `1+n`)");
        for (int n = 1; n <= 4; n++) {
            LogicHeapCollector x = new LogicHeapCollector(4, 240);
            int want = 0;
            for (int made = 0; made < 130; made++) {
                x.build(0, 1, n, 0);
                want = want + 1 + n <= 240 ? want + 1 + n : want;
                check.due("used()", x.used(), want);
            }
        }
    }

    private static void returnsThroughBacktrackOnly() {
        check.sentence("returns to a saved value only through `backtrack`");
        LogicHeapCollector x = new LogicHeapCollector(2, 64);
        for (int level = 0; level < 8; level++) {
            x.newVar(0);
            x.pushChoice();
        }
        x.build(1, 1, 2, 0);
        for (int level = 8; level >= 1; level--) {
            check.due("used() before backtrack()", x.used(), level == 8 ? 11 : level + 1);
            x.backtrack();
            check.due("used() after backtrack()", x.used(), level);
            x.popChoice();
            check.due("used() after popChoice()", x.used(), level);
        }
    }

    private static void isKeptByEveryOtherCall() {
        check.sentence("is not changed by `collect`, `bind`, `setConst`, `move`, `getArg`, "
            + "`pushChoice`, `popChoice`, the getters");
        List<Call> calls = List.of(Call.collect(), Call.bind(0, 5), Call.bind(5, 4),
            Call.bind(6, 6), Call.bind(0, 0), Call.setConst(0, Check.ATOM, 1),
            Call.setConst(4, Check.INT, 1),
            Call.move(0, 4), Call.move(4, 0), Call.getArg(0, 4, 1), Call.getArg(3, 3, 2),
            Call.pushChoice(), Call.popChoice(), Call.kind(0), Call.value(4), Call.arity(3),
            Call.sameVar(5, 6), Call.treeSize(3), Call.used());
        Scene scene = Scene.mixed();
        int want = scene.make().used();
        for (Call call : calls) {
            check.due("used() after " + call.text(), scene.after(call).make().used(), want);
        }
    }

    private static void isKeptByRefusedCalls() {
        check.sentence("or any refused call");
        List<Call> calls = List.of(Call.setConst(-1, Check.ATOM, 1), Call.setConst(0, 0, 0),
            Call.setConst(0, Check.ATOM, 4096), Call.setConst(0, Check.INT, 32768), Call.newVar(8),
            Call.build(8, 1, 1, 0), Call.build(0, 4096, 1, 0), Call.build(0, 1, 0, 0),
            Call.build(0, 1, 5, 0), Call.build(0, 1, 1, 8), Call.move(0, 8), Call.move(8, 0),
            Call.getArg(8, 0, 1), Call.getArg(0, 8, 1), Call.getArg(0, 0, 0), Call.bind(8, 0),
            Call.bind(0, 8));
        for (Scene scene : Scene.all()) {
            for (Call call : calls) {
                check.due(scene.name + ": used() after " + call.text(),
                    scene.after(call).make().used(), scene.make().used());
            }
        }
        for (Call call : List.of(Call.newVar(0), Call.build(0, 1, 1, 0), Call.build(0, 1, 3, 0))) {
            check.due("used() after " + call.text() + " at the budget",
                Scene.fullBudget().after(call).make().used(), 16);
        }
        for (Call call : List.of(Call.backtrack(), Call.popChoice())) {
            Scene none = new Scene("no choice point", 2, () -> new LogicHeapCollector(2, 16))
                .after(Call.newVar(0));
            check.due("used() after a refused " + call.text(), none.after(call).make().used(), 1);
        }
        Scene stack = Scene.fullStack();
        check.due("used() after a refused pushChoice()",
            stack.after(Call.pushChoice()).make().used(), stack.make().used());
    }

    private static void changesNothing() {
        check.sentence("It changes nothing.");
        for (Scene scene : Scene.all()) {
            check.keeps(scene, Call.used(), scene.make().used());
        }
    }
}
