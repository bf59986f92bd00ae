/** Promise 11: collect changes no answer; ModelTest adds the same over long mixed runs. */
final class CollectTest {
    private static final Check check = new Check();

    public static void main(String[] args) {
        keepsTheStateAndUsed();
        keepsTheRefusalsAtTheBudget();
        keepsAgesAndIdentities();
        keepsWhatOnlySnapshotsReach();
        keepsEveryChoicePoint();
        check.finish();
    }

    private static void keepsTheStateAndUsed() {
        LogicHeapCollector x = new LogicHeapCollector(6, 64);
        x.collect();
        check.due("used() of a new object", x.used(), 0);
        x.newVar(0);
        x.newVar(0);
        x.build(1, 2, 3, 0);
        x.newVar(2);
        x.bind(2, 1);
        x.setConst(1, Check.INT, 3);
        String before = Check.state(x);
        for (int round = 0; round < 3; round++) {
            x.collect();
            check.dueUnchanged("collect()", x, before);
        }
    }

    private static void keepsTheRefusalsAtTheBudget() {
        LogicHeapCollector x = new LogicHeapCollector(2, 16);
        for (int made = 0; made < 16; made++) {
            x.newVar(0);
            x.setConst(0, Check.ATOM, 0);
            x.collect();
        }
        check.due("used() with every variable lost", x.used(), 16);
        check.due("newVar(0)", x.newVar(0), false);
        check.due("build(0, 1, 1, 0)", x.build(0, 1, 1, 0), false);
    }

    private static void keepsAgesAndIdentities() {
        LogicHeapCollector x = new LogicHeapCollector(4, 64);
        x.newVar(3);
        x.newVar(0);
        x.newVar(3);
        x.newVar(1);
        x.setConst(3, Check.ATOM, 0);
        x.collect();
        check.due("sameVar(0, 1)", x.sameVar(0, 1), false);
        x.pushChoice();
        x.collect();
        x.newVar(2);
        check.due("bind(0, 2)", x.bind(0, 2), Check.OK);
        check.due("bind(0, 1)", x.bind(0, 1), Check.OK);
        x.collect();
        check.due("sameVar(1, 2)", x.sameVar(1, 2), true);
        x.backtrack();
        check.due("sameVar(0, 1) again", x.sameVar(0, 1), false);
        check.due("used()", x.used(), 4);
    }

    private static void keepsWhatOnlySnapshotsReach() {
        LogicHeapCollector x = new LogicHeapCollector(4, 64);
        x.newVar(0);
        x.setConst(1, Check.INT, 77);
        x.build(2, 5, 2, 0);
        x.pushChoice();
        x.bind(0, 1);
        for (int r = 0; r < 4; r++) {
            x.setConst(r, Check.ATOM, 1);
        }
        x.collect();
        x.build(3, 6, 3, 0);
        x.collect();
        x.backtrack();
        check.dueTerm("the structure", x, 2, Check.STRUCT, 5, 2, 3);
        x.getArg(3, 2, 1);
        check.due("its variable", x.sameVar(3, 0), true);
        x.getArg(3, 2, 2);
        check.dueTerm("its integer", x, 3, Check.INT, 77, 0, 1);
    }

    private static void keepsEveryChoicePoint() {
        LogicHeapCollector x = new LogicHeapCollector(2, 16);
        for (int made = 1; made <= 8; made++) {
            x.newVar(0);
            x.pushChoice();
            x.setConst(0, Check.INT, made);
            x.collect();
        }
        check.due("pushChoice() as number 9", x.pushChoice(), false);
        for (int left = 8; left >= 1; left--) {
            x.backtrack();
            x.collect();
            check.due("kind(0)", x.kind(0), Check.VAR);
            check.due("used()", x.used(), left);
            check.due("popChoice()", x.popChoice(), true);
        }
        x.collect();
        check.due("backtrack() on none", x.backtrack(), false);
    }
}
