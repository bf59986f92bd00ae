import java.util.ArrayList;
import java.util.List;

/**
 * "Age" and the binding of two variables in promise 7. No call answers an age, so this holds what
 * calls can show: the two become one unbound variable, a later binding is seen through every root
 * and argument that holds either, and a backtrack undoes exactly what was bound since.
 */
final class AgeEdgeTest {
    private static final int VARIABLES = 4;
    private static final int STEPS = 3;
    private static final Check check = new Check();

    /** Binds variable v to variable t, or to this number if t is no variable. */
    private record Step(int v, int t, int number) {
        boolean isPair() {
            return t >= 0;
        }
    }

    /**
     * What is due: for each variable the oldest that it is one with, and for that one its number,
     * or 0 while it is unbound.
     */
    private record Due(int[] oldest, int[] number) {
        static Due allApart() {
            return new Due(new int[] {0, 1, 2, 3}, new int[VARIABLES]);
        }

        int numberOf(int variable) {
            return number[oldest[variable]];
        }

        boolean areOne(int variable, int other) {
            return numberOf(variable) == 0 && oldest[variable] == oldest[other];
        }

        int answerTo(Step step) {
            return numberOf(step.v()) == 0 ? Check.OK : Check.REFUSED;
        }

        Due after(Step step) {
            Due next = new Due(oldest.clone(), number.clone());
            if (numberOf(step.v()) != 0) {
                return next;
            }
            int given = step.isPair() ? numberOf(step.t()) : step.number();
            if (given != 0) {
                next.number[oldest[step.v()]] = given;
            } else {
                next.join(oldest[step.v()], oldest[step.t()]);
            }
            return next;
        }

        private void join(int one, int other) {
            for (int variable = 0; variable < VARIABLES; variable++) {
                if (oldest[variable] == Math.max(one, other)) {
                    oldest[variable] = Math.min(one, other);
                }
            }
        }
    }

    public static void main(String[] args) {
        becomeOneUnboundVariable();
        everyOrderOfBindings();
        variablesYoungerThanTheSnapshotGo();
        aLaterCallMakesTheYounger();
        bindingsGoThroughEveryHolder();
        oldStructuresForgetTheYounger();
        check.finish();
    }

    private static List<Step> steps() {
        List<Step> steps = new ArrayList<>();
        for (int v = 0; v < VARIABLES; v++) {
            for (int t = 0; t < VARIABLES; t++) {
                if (t != v) {
                    steps.add(new Step(v, t, 0));
                }
            }
            steps.add(new Step(v, -1, 11 + v));
        }
        return steps;
    }

    private static void becomeOneUnboundVariable() {
        check.sentence("Afterwards roots `v` and `t` both dereference to the older variable, which "
            + "stays unbound.");
        for (int v = 0; v < VARIABLES; v++) {
            for (int t = 0; t < VARIABLES; t++) {
                LogicHeapCollector x = variables(VARIABLES);
                int used = x.used();
                String call = "bind(" + v + ", " + t + ")";
                check.due(call, x.bind(v, t), Check.OK);
                check.due(call + ": used()", x.used(), used);
                check.due(call + ": sameVar(" + v + ", " + t + ")", x.sameVar(v, t), true);
                for (int r = 0; r < VARIABLES; r++) {
                    boolean one = r == v || r == t;
                    check.dueTerm(call, x, r, Check.VAR, 0, 0, 1);
                    check.due(call + ": sameVar(" + v + ", " + r + ")", x.sameVar(v, r), one);
                    check.due(call + ": sameVar(" + r + ", " + t + ")", x.sameVar(r, t), one);
                }
            }
        }
    }

    /** The roots from 0 on hold variables, root 4 a structure over roots 0 to 3, root 5 over 4. */
    private static LogicHeapCollector variables(int count) {
        LogicHeapCollector x = new LogicHeapCollector(8, 64);
        for (int r = 0; r < count; r++) {
            x.newVar(r);
        }
        x.build(4, 1, 4, 0);
        x.build(5, 2, 1, 4);
        return x;
    }

    private static void everyOrderOfBindings() {
        check.sentence("every older variable is bound exactly as in the snapshot (bindings made "
            + "since are undone, and bindings that existed then are present again)");
        List<Step> steps = steps();
        for (Step step1 : steps) {
            for (Step step2 : steps) {
                for (Step step3 : steps) {
                    List<Step> run = List.of(step1, step2, step3);
                    for (int pushes = 0; pushes < 1 << STEPS; pushes++) {
                        bindsAndGoesBack(run, pushes);
                    }
                    popsAndGoesBack(run);
                }
            }
        }
    }

    /** A bit of pushes tells whether a choice point stands before that step. */
    private static void bindsAndGoesBack(List<Step> run, int pushes) {
        String name = run.toString();
        LogicHeapCollector x = variables(VARIABLES);
        List<Due> snapshots = new ArrayList<>();
        Due due = Due.allApart();
        for (int i = 0; i < STEPS; i++) {
            if ((pushes >> i & 1) == 1) {
                x.pushChoice();
                snapshots.add(due);
            }
            due = takes(x, run.get(i), due);
        }
        shows(x, name, due);
        for (int level = snapshots.size() - 1; level >= 0; level--) {
            x.backtrack();
            shows(x, name, snapshots.get(level));
            x.popChoice();
        }
    }

    /** Dropped choice points leave what was bound; the oldest still undoes all of it. */
    private static void popsAndGoesBack(List<Step> run) {
        String name = run.toString();
        LogicHeapCollector x = variables(VARIABLES);
        Due due = Due.allApart();
        for (Step step : run) {
            x.pushChoice();
            due = takes(x, step, due);
        }
        for (int left = STEPS - 1; left >= 1; left--) {
            x.popChoice();
            shows(x, name, due);
        }
        x.backtrack();
        shows(x, name, Due.allApart());
    }

    private static Due takes(LogicHeapCollector x, Step step, Due due) {
        int t = step.t();
        if (!step.isPair()) {
            x.setConst(7, Check.INT, step.number());
            t = 7;
        }
        check.dueFast("a step", x.bind(step.v(), t), due.answerTo(step), "bind", step.v(), t);
        return due.after(step);
    }

    /** Each variable through its root and through both structures. Root 6 is lost. */
    private static void shows(LogicHeapCollector x, String name, Due due) {
        for (int variable = 0; variable < VARIABLES; variable++) {
            showsThrough(x, name, due, variable, variable);
            x.getArg(6, 4, variable + 1);
            showsThrough(x, name, due, variable, 6);
            x.getArg(6, 5, 1);
            x.getArg(6, 6, variable + 1);
            showsThrough(x, name, due, variable, 6);
        }
        check.dueFast(name, x.treeSize(5), 6, "treeSize", 5);
    }

    private static void showsThrough(LogicHeapCollector x, String name, Due due, int variable,
            int root) {
        int number = due.numberOf(variable);
        check.dueFast(name, x.kind(root), number == 0 ? Check.VAR : Check.INT, "kind", root);
        check.dueFast(name, x.value(root), number, "value", root);
        for (int other = 0; other < VARIABLES; other++) {
            check.dueFast(name, x.sameVar(root, other), due.areOne(variable, other), "sameVar",
                root, other);
        }
    }

    private static void variablesYoungerThanTheSnapshotGo() {
        check.sentence("Variables created after the snapshot and later made reachable only through "
            + "older terms are gone as well, with every binding to them undone.");
        for (Step step1 : steps()) {
            for (Step step2 : steps()) {
                List<Step> run = List.of(step1, step2);
                LogicHeapCollector x = variables(2);
                String before = Check.state(x);
                x.pushChoice();
                x.newVar(2);
                x.newVar(3);
                x.build(4, 1, 4, 0);
                x.build(5, 2, 1, 4);
                Due due = takes(x, step2, takes(x, step1, Due.allApart()));
                shows(x, run.toString(), due);
                x.backtrack();
                check.dueUnchanged(run + " and backtrack()", x, before);
                // A new variable in the same cell must be none of the old ones.
                x.newVar(2);
                check.due(run + ": sameVar(0, 1)", x.sameVar(0, 1), false);
                check.due(run + ": sameVar(0, 2)", x.sameVar(0, 2), false);
                check.due(run + ": sameVar(1, 2)", x.sameVar(1, 2), false);
            }
        }
    }

    private static void aLaterCallMakesTheYounger() {
        check.sentence("Variables are ordered by creation; of two variables, the one created by "
            + "the later call is the younger.");
        for (int order = 0; order < 2; order++) {
            for (int between = 0; between <= 3; between++) {
                LogicHeapCollector x = new LogicHeapCollector(4, 32);
                x.newVar(0);
                x.pushChoice();
                // What is discarded must not make the next variable older than the first.
                for (int made = 0; made < between; made++) {
                    x.newVar(1);
                    x.build(1, 1, 2, 0);
                }
                x.backtrack();
                x.newVar(1);
                x.pushChoice();
                check.due("bind", order == 0 ? x.bind(0, 1) : x.bind(1, 0), Check.OK);
                x.newVar(2);
                check.due("bind to the third", order == 0 ? x.bind(2, 1) : x.bind(1, 2), Check.OK);
                check.due("sameVar(0, 2)", x.sameVar(0, 2), true);
                x.backtrack();
                check.due("sameVar(0, 1) after backtrack()", x.sameVar(0, 1), false);
                check.due("kind(2) after backtrack()", x.kind(2), Check.ATOM);
                x.popChoice();
                x.backtrack();
                check.dueTerm("the oldest", x, 0, Check.VAR, 0, 0, 1);
                check.dueTerm("where the younger was", x, 1, Check.ATOM, 0, 0, 1);
                check.due("used()", x.used(), 1);
            }
        }
    }

    /** The later binding is to a structure, and made through any holder of either variable. */
    private static void bindingsGoThroughEveryHolder() {
        check.sentence("A root or argument that holds a variable holds that very variable and sees "
            + "every later binding of it.");
        for (int order = 0; order < 2; order++) {
            for (int holder = 0; holder < 6; holder++) {
                LogicHeapCollector x = new LogicHeapCollector(8, 64);
                x.newVar(0);
                x.newVar(1);
                x.move(2, 0);
                x.move(3, 1);
                x.build(4, 1, 2, 0);
                check.due("bind", order == 0 ? x.bind(0, 1) : x.bind(1, 0), Check.OK);
                x.build(5, 2, 4, 0);
                x.setConst(7, Check.INT, -6);
                x.build(7, 9, 1, 7);
                x.getArg(6, holder < 4 ? 5 : 4, holder % 4 + 1);
                check.due("bind through holder " + holder, x.bind(6, 7), Check.OK);
                for (int r = 0; r <= 3; r++) {
                    check.dueTerm("root " + r, x, r, Check.STRUCT, 9, 1, 2);
                }
                for (int k = 1; k <= 4; k++) {
                    x.getArg(6, 5, k);
                    check.dueTerm("argument " + k + " built later", x, 6, Check.STRUCT, 9, 1, 2);
                    x.getArg(6, 4, 1 + k % 2);
                    check.dueTerm("argument built before", x, 6, Check.STRUCT, 9, 1, 2);
                }
                check.due("treeSize(4)", x.treeSize(4), 5);
                check.due("treeSize(5)", x.treeSize(5), 9);
            }
        }
    }

    private static void oldStructuresForgetTheYounger() {
        check.sentence("every variable and structure created since then ceases to exist");
        for (int order = 0; order < 2; order++) {
            LogicHeapCollector x = new LogicHeapCollector(5, 32);
            x.newVar(0);
            x.build(1, 3, 1, 0);
            x.pushChoice();
            x.newVar(2);
            check.due("bind", order == 0 ? x.bind(0, 2) : x.bind(2, 0), Check.OK);
            x.setConst(3, Check.ATOM, 8);
            check.due("bind the younger", x.bind(2, 3), Check.OK);
            x.getArg(4, 1, 1);
            check.dueTerm("the old structure's argument", x, 4, Check.ATOM, 8, 0, 1);
            x.backtrack();
            x.newVar(2);
            x.setConst(3, Check.INT, 5);
            check.due("bind another in its cell", x.bind(2, 3), Check.OK);
            check.dueTerm("the older", x, 0, Check.VAR, 0, 0, 1);
            x.getArg(4, 1, 1);
            check.due("the old structure's argument", x.sameVar(4, 0), true);
        }
    }
}
