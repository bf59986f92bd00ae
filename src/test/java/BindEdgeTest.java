import java.math.BigInteger;

/** Promise 7, sentence by sentence. */
final class BindEdgeTest {
    private static final int[] NEAR_LIMIT = {998, 999, 1000, 1001, 1002};
    private static final Check check = new Check();

    public static void main(String[] args) {
        needsAValidRootForTheVariable();
        needsAValidRootForTheTerm();
        refusesWhatIsNoUnboundVariable();
        takesTheTreeLimit();
        takesTheTreeLimitInEveryShape();
        measuresTheTermAlone();
        refusesAboveTheLimitEvenIfTheVariableOccurs();
        refusesSizesBeyondInt();
        exactlyOneCaseApplies();
        toItselfChangesNothing();
        twoVariablesBecomeTheOlder();
        failsIfTheVariableOccurs();
        failsAtTheLimit();
        looksDeepAndThroughBindings();
        bindsToConstantsAtTheirBounds();
        bindsToStructuresWithoutTheVariable();
        isSeenEverywhere();
        neverFormsACycle();
        changesNothingElse();
        check.finish();
    }

    private static void needsAValidRootForTheVariable() {
        check.sentence("(1) `v` is a valid root");
        for (Scene scene : Scene.all()) {
            for (int v : Check.noRoots(scene.roots)) {
                for (int t = 0; t < scene.roots; t++) {
                    check.refuses(scene, Call.bind(v, t));
                }
            }
        }
    }

    private static void needsAValidRootForTheTerm() {
        check.sentence("(2) `t` is a valid root");
        for (Scene scene : Scene.all()) {
            for (int t : Check.noRoots(scene.roots)) {
                for (int v = 0; v < scene.roots; v++) {
                    check.refuses(scene, Call.bind(v, t));
                }
                check.refuses(scene, Call.bind(t, t));
            }
        }
        for (int roots = 2; roots <= 8; roots++) {
            LogicHeapCollector x = new LogicHeapCollector(roots, 16);
            x.newVar(0);
            check.due("bind(0, " + (roots - 1) + ")", x.bind(0, roots - 1), Check.OK);
            x.newVar(roots - 1);
            check.due("bind(" + (roots - 1) + ", 0)", x.bind(roots - 1, 0), Check.OK);
        }
    }

    private static void refusesWhatIsNoUnboundVariable() {
        check.sentence("(3) the dereferenced term of root `v` is an unbound variable `V`");
        Scene scene = new Scene("roots that are no unbound variable", 7, () -> {
            LogicHeapCollector x = new LogicHeapCollector(7, 32);
            x.setConst(0, Check.ATOM, 0);
            x.setConst(1, Check.INT, 0);
            x.build(2, 3, 2, 0);
            for (int r = 3; r <= 5; r++) {
                x.newVar(r);
                x.bind(r, r - 3);
            }
            x.newVar(6);
            x.pushChoice();
            return x;
        });
        for (int v = 0; v <= 5; v++) {
            for (int t = 0; t <= 6; t++) {
                check.refuses(scene, Call.bind(v, t));
            }
        }
    }

    private static void takesTheTreeLimit() {
        check.sentence("(4) the tree size of the dereferenced term `T` of root `t` is at most "
            + "`TREE_LIMIT`");
        for (int leaf = 0; leaf < 3; leaf++) {
            for (int size : NEAR_LIMIT) {
                int kind = leaf;
                Scene scene = new Scene("root 1 of tree size " + size, 5, () -> {
                    LogicHeapCollector x = new LogicHeapCollector(5, 240);
                    setLeaf(x, kind);
                    Check.grow(x, size);
                    x.newVar(3);
                    x.newVar(4);
                    return x;
                });
                limited(scene, Call.bind(3, 1), size, Check.OK);
                // Through a bound variable too; its own binding needs a small term at first.
                LogicHeapCollector x = scene.make();
                x.bind(3, 4);
                check.due("bind of two bound together", x.bind(4, 1),
                    size <= 1000 ? Check.OK : Check.REFUSED);
                check.due("kind(3)", x.kind(3), size <= 1000 ? Check.STRUCT : Check.VAR);
            }
        }
    }

    private static void setLeaf(LogicHeapCollector x, int kind) {
        if (kind == 0) {
            x.newVar(0);
        } else {
            x.setConst(0, kind == 1 ? Check.ATOM : Check.INT, 6);
        }
    }

    private static void limited(Scene scene, Call call, int size, int answer) {
        if (size > 1000) {
            check.refuses(scene, call);
        } else {
            check.due(scene.name + ": " + call.text(), call.on(scene.make()), answer);
        }
    }

    /** The limit is passed by the last, a middle or the first argument of each arity. */
    private static void takesTheTreeLimitInEveryShape() {
        check.sentence("A shared subterm counts once for every place where it occurs.");
        for (int n = 1; n <= 4; n++) {
            for (int big = 0; big < n; big++) {
                for (int size : NEAR_LIMIT) {
                    LogicHeapCollector x = shaped(n, big, size);
                    String what = "arity " + n + ", great argument " + (big + 1) + ", size " + size;
                    check.due(what + ": treeSize(3)", x.treeSize(3), Math.min(size, 1001));
                    check.due(what + ": bind(7, 3)", x.bind(7, 3),
                        size > 1000 ? Check.REFUSED : Check.OK);
                    check.due(what + ": kind(7)", x.kind(7),
                        size > 1000 ? Check.VAR : Check.STRUCT);
                }
            }
        }
    }

    /** Root 3: a structure of arity n; one argument takes the size that others leave. */
    private static LogicHeapCollector shaped(int n, int big, int size) {
        LogicHeapCollector x = new LogicHeapCollector(8, 240);
        x.setConst(0, Check.INT, 2);
        Check.grow(x, size - 1 - 5 * (n - 1));
        x.move(7, 1);
        Check.grow(x, 5);
        for (int r = 3; r < 3 + n; r++) {
            x.move(r, r == 3 + big ? 7 : 1);
        }
        x.build(3, 9, n, 3);
        x.newVar(7);
        return x;
    }

    private static void measuresTheTermAlone() {
        check.sentence("Otherwise (`T` is an atom, an integer, or a structure in which `V` does "
            + "not occur): `V` is bound to `T`; answers `BIND_OK`.");
        LogicHeapCollector x = new LogicHeapCollector(6, 240);
        x.setConst(0, Check.ATOM, 1);
        Check.grow(x, 1000);
        x.newVar(3);
        x.newVar(4);
        x.bind(4, 3);
        x.build(5, 2, 2, 3);
        check.due("treeSize(5) before", x.treeSize(5), 3);
        check.due("bind(3, 1)", x.bind(3, 1), Check.OK);
        check.due("treeSize(3)", x.treeSize(3), 1000);
        check.due("treeSize(5), truly 2001", x.treeSize(5), 1001);
        x.newVar(3);
        check.due("bind(3, 5)", x.bind(3, 5), Check.REFUSED);
    }

    private static void refusesAboveTheLimitEvenIfTheVariableOccurs() {
        check.sentence("in particular a `T` of tree size above `TREE_LIMIT` is refused even when "
            + "`V` occurs in it");
        for (int size : NEAR_LIMIT) {
            Scene within = new Scene("the variable within a tree of size " + size, 3, () -> {
                LogicHeapCollector x = new LogicHeapCollector(3, 240);
                x.newVar(0);
                Check.grow(x, size);
                return x;
            });
            limited(within, Call.bind(0, 1), size, Check.FAIL);
        }
        for (int place = 3; place <= 6; place++) {
            int at = place;
            Scene beside = new Scene("the variable beside a great tree, root " + place, 8, () -> {
                LogicHeapCollector x = new LogicHeapCollector(8, 240);
                Check.grow(x, 1000);
                for (int r = 3; r <= 6; r++) {
                    x.move(r, 1);
                }
                x.newVar(at);
                x.move(7, at);
                x.build(1, 3, 4, 3);
                return x;
            });
            check.refuses(beside, Call.bind(7, 1));
        }
    }

    private static void refusesSizesBeyondInt() {
        check.sentence("The tree size in (4) is the true mathematical size, as in Promise 16; a "
            + "size beyond the int range is still above `TREE_LIMIT`, and the call is refused.");
        for (BigInteger size : Check.hugeSizes()) {
            for (int leaf = 0; leaf < 2; leaf++) {
                int kind = leaf;
                Scene scene = new Scene("root 1 of tree size " + size, 5, () -> {
                    LogicHeapCollector x = new LogicHeapCollector(5, 240);
                    setLeaf(x, kind);
                    Check.grow(x, size);
                    x.newVar(3);
                    x.newVar(4);
                    x.setConst(2, Check.ATOM, 0);
                    return x;
                });
                refusedAndStillUnbound(scene, Call.bind(3, 1));
                refusedAndStillUnbound(scene, Call.bind(0, 1));
            }
        }
    }

    private static void refusedAndStillUnbound(Scene scene, Call call) {
        check.refuses(scene, call);
        LogicHeapCollector x = scene.after(call).make();
        check.due(scene.name + ": bind(3, 4)", x.bind(3, 4), Check.OK);
        check.due(scene.name + ": bind(4, 2)", x.bind(4, 2), Check.OK);
        check.dueTerm("the variable", x, 3, Check.ATOM, 0, 0, 1);
    }

    private static void exactlyOneCaseApplies() {
        check.sentence("Then exactly one case applies");
        // Roots: 0 V, 1 V through a younger variable, 2 another variable, 3 f(V), 4 f(Y) with Y
        // bound to f(V), 5 an atom, 6 an integer, 7 g(W) over the variable in root 2.
        Scene scene = new Scene("a root for every case", 8, () -> {
            LogicHeapCollector x = new LogicHeapCollector(8, 64);
            x.newVar(0);
            x.newVar(2);
            x.build(7, 2, 1, 2);
            x.build(3, 1, 1, 0);
            x.newVar(1);
            x.build(4, 1, 1, 1);
            x.bind(1, 3);
            x.newVar(1);
            x.bind(1, 0);
            x.setConst(5, Check.ATOM, 0);
            x.setConst(6, Check.INT, -1);
            return x;
        });
        for (int v = 0; v <= 1; v++) {
            check.keeps(scene, Call.bind(v, 0), Check.OK);
            check.keeps(scene, Call.bind(v, 1), Check.OK);
            check.keeps(scene, Call.bind(v, 3), Check.FAIL);
            check.keeps(scene, Call.bind(v, 4), Check.FAIL);
            oneCase(scene, v, 2, Check.VAR, 0, 0, 1);
            oneCase(scene, v, 5, Check.ATOM, 0, 0, 1);
            oneCase(scene, v, 6, Check.INT, -1, 0, 1);
            oneCase(scene, v, 7, Check.STRUCT, 2, 1, 2);
        }
    }

    private static void oneCase(Scene scene, int v, int t, int... term) {
        LogicHeapCollector x = scene.make();
        int used = x.used();
        check.due("bind(" + v + ", " + t + ")", x.bind(v, t), Check.OK);
        check.dueTerm("the variable", x, 0, term);
        check.dueTerm("through the younger one", x, 1, term);
        check.dueTerm("the term", x, t, term);
        check.due("sameVar(0, 2)", x.sameVar(0, 2), t == 2);
        check.due("treeSize(3)", x.treeSize(3), 1 + term[3]);
        check.due("treeSize(4)", x.treeSize(4), 2 + term[3]);
        check.due("used()", x.used(), used);
    }

    private static void toItselfChangesNothing() {
        check.sentence("`T` is `V` itself: answers `BIND_OK` and changes nothing.");
        Scene mixed = Scene.mixed();
        check.keeps(mixed, Call.bind(0, 0), Check.OK);
        check.keeps(mixed, Call.bind(5, 5), Check.OK);
        check.keeps(mixed, Call.bind(5, 6), Check.OK);
        check.keeps(mixed, Call.bind(6, 5), Check.OK);
        Scene together = new Scene("two variables bound together", 4, () -> {
            LogicHeapCollector x = new LogicHeapCollector(4, 16);
            x.newVar(0);
            x.newVar(1);
            x.bind(0, 1);
            x.build(2, 3, 2, 0);
            return x;
        });
        for (int v = 0; v < 2; v++) {
            for (int t = 0; t < 2; t++) {
                check.keeps(together, Call.bind(v, t), Check.OK);
            }
        }
        check.keeps(Scene.fullBudget(), Call.bind(1, 1), Check.OK);
    }

    /** No call shows which way the binding goes; all show that the two are one, and unbound. */
    private static void twoVariablesBecomeTheOlder() {
        check.sentence("the younger of `V` and `W` is bound to the older; answers `BIND_OK`. "
            + "Afterwards roots `v` and `t` both dereference to the older variable, which stays "
            + "unbound.");
        for (int between = 0; between <= 3; between++) {
            for (int order = 0; order < 2; order++) {
                olderStays(between, order);
            }
        }
    }

    private static void olderStays(int between, int order) {
        LogicHeapCollector x = new LogicHeapCollector(7, 64);
        x.newVar(0);
        x.move(2, 0);
        for (int made = 0; made < between; made++) {
            x.build(6, 1, 4, 0);
        }
        x.newVar(1);
        x.move(3, 1);
        x.build(4, 2, 2, 0);
        int used = x.used();
        check.due("bind", order == 0 ? x.bind(0, 1) : x.bind(1, 0), Check.OK);
        check.due("used()", x.used(), used);
        check.due("sameVar(0, 1)", x.sameVar(0, 1), true);
        check.due("sameVar(2, 3)", x.sameVar(2, 3), true);
        check.dueTerm("root v", x, 0, Check.VAR, 0, 0, 1);
        check.dueTerm("root t", x, 1, Check.VAR, 0, 0, 1);
        x.setConst(6, Check.INT, 8);
        check.due("bind the older", x.bind(order == 0 ? 2 : 3, 6), Check.OK);
        for (int r = 0; r <= 3; r++) {
            check.dueTerm("all of them", x, r, Check.INT, 8, 0, 1);
        }
        for (int k = 1; k <= 2; k++) {
            x.getArg(5, 4, k);
            check.dueTerm("both arguments", x, 5, Check.INT, 8, 0, 1);
        }
    }

    private static void failsIfTheVariableOccurs() {
        check.sentence("`V` occurs in `T` (`V` is reached when `T` and its arguments are walked, "
            + "dereferencing at every step): answers `BIND_FAIL` and changes nothing.");
        for (int n = 1; n <= 4; n++) {
            for (int place = 0; place < n; place++) {
                int arity = n;
                int at = place;
                Scene scene = new Scene("the variable as argument " + (place + 1) + " of " + n, 6,
                    () -> {
                        LogicHeapCollector x = new LogicHeapCollector(6, 32);
                        x.newVar(at);
                        x.move(5, at);
                        x.build(4, 3, arity, 0);
                        x.pushChoice();
                        return x;
                    });
                check.keeps(scene, Call.bind(5, 4), Check.FAIL);
                check.keeps(scene, Call.bind(place, 4), Check.FAIL);
            }
        }
    }

    private static void failsAtTheLimit() {
        check.sentence("A refused call answers `BIND_REFUSED` and changes nothing");
        for (int place = 3; place <= 6; place++) {
            LogicHeapCollector x = new LogicHeapCollector(8, 240);
            x.setConst(0, Check.ATOM, 3);
            Check.grow(x, 332);
            for (int r = 3; r <= 6; r++) {
                x.move(r, 1);
            }
            x.newVar(place);
            x.move(7, place);
            x.build(3, 3, 4, 3);
            check.due("treeSize(3)", x.treeSize(3), 998);
            x.build(3, 3, 1, 3);
            x.build(3, 3, 1, 3);
            check.due("treeSize(3)", x.treeSize(3), 1000);
            check.due("bind(7, 3) at the limit", x.bind(7, 3), Check.FAIL);
            x.build(3, 3, 1, 3);
            check.due("bind(7, 3) above the limit", x.bind(7, 3), Check.REFUSED);
            check.due("kind(7)", x.kind(7), Check.VAR);
        }
    }

    private static void looksDeepAndThroughBindings() {
        check.sentence("is reached when `T` and its arguments are walked, dereferencing at every "
            + "step");
        LogicHeapCollector x = new LogicHeapCollector(4, 240);
        x.newVar(0);
        x.move(1, 0);
        x.newVar(2);
        x.bind(2, 0);
        x.move(1, 2);
        // Every level is an argument that is a variable bound to the level within.
        for (int level = 1; level <= 79; level++) {
            x.build(1, 5, 1, 1);
            check.due("bind(0, 1) at level " + level, x.bind(0, 1), Check.FAIL);
            check.due("kind(0)", x.kind(0), Check.VAR);
            x.newVar(3);
            check.due("bind(3, 1)", x.bind(3, 1), Check.OK);
            check.due("bind(0, 3)", x.bind(0, 3), Check.FAIL);
            check.due("bind(2, 3)", x.bind(2, 3), Check.FAIL);
            x.move(1, 3);
        }
    }

    private static void bindsToConstantsAtTheirBounds() {
        check.sentence("`V` is bound to `T`; answers `BIND_OK`");
        int[][] constants = {{Check.ATOM, 0}, {Check.ATOM, 4095}, {Check.INT, -32768},
            {Check.INT, -1}, {Check.INT, 0}, {Check.INT, 32767}};
        for (int[] row : constants) {
            LogicHeapCollector x = new LogicHeapCollector(3, 16);
            x.newVar(0);
            x.move(2, 0);
            x.setConst(1, row[0], row[1]);
            check.due("bind(0, 1)", x.bind(0, 1), Check.OK);
            check.dueTerm("the bound variable", x, 2, row[0], row[1], 0, 1);
        }
    }

    private static void bindsToStructuresWithoutTheVariable() {
        check.sentence("a structure in which `V` does not occur");
        for (int n = 1; n <= 4; n++) {
            LogicHeapCollector x = new LogicHeapCollector(7, 32);
            x.newVar(5);
            for (int r = 0; r < 4; r++) {
                x.newVar(r);
            }
            x.newVar(6);
            x.build(4, 4095, n, 0);
            check.due("an older variable", x.bind(5, 4), Check.OK);
            check.due("a younger variable", x.bind(6, 4), Check.OK);
            check.dueTerm("the older", x, 5, Check.STRUCT, 4095, n, 1 + n);
            check.dueTerm("the younger", x, 6, Check.STRUCT, 4095, n, 1 + n);
        }
    }

    private static void isSeenEverywhere() {
        check.sentence("A binding is seen through every root and every argument that holds the "
            + "bound variable.");
        LogicHeapCollector x = new LogicHeapCollector(8, 64);
        for (int r = 0; r < 8; r++) {
            x.newVar(0);
        }
        for (int r = 1; r < 7; r++) {
            x.move(r, 0);
        }
        x.build(5, 3, 4, 0);
        x.build(6, 3, 4, 2);
        check.due("bind(2, 7)", x.bind(2, 7), Check.OK);
        for (int r = 0; r < 5; r++) {
            check.dueTerm("every root", x, r, Check.ATOM, 0, 0, 1);
        }
        for (int k = 1; k <= 4; k++) {
            x.getArg(0, 5, k);
            check.dueTerm("every argument", x, 0, Check.ATOM, 0, 0, 1);
        }
        x.getArg(0, 6, 4);
        x.getArg(0, 0, 4);
        check.dueTerm("an argument's argument", x, 0, Check.ATOM, 0, 0, 1);
    }

    private static void neverFormsACycle() {
        check.sentence("Bindings never form a cycle.");
        LogicHeapCollector x = new LogicHeapCollector(8, 64);
        for (int r = 0; r < 4; r++) {
            x.newVar(r);
        }
        for (int r = 0; r < 4; r++) {
            x.build(4 + r, r, 1, r);
        }
        check.due("X = f(Y)", x.bind(0, 5), Check.OK);
        check.due("Y = f(Z)", x.bind(1, 6), Check.OK);
        check.due("Z = f(U)", x.bind(2, 7), Check.OK);
        for (int r = 0; r < 3; r++) {
            check.due("U = the term of root " + r, x.bind(3, r), Check.FAIL);
            check.due("U = the term of root " + (4 + r), x.bind(3, 4 + r), Check.FAIL);
        }
        check.due("U = f(U)", x.bind(3, 7), Check.FAIL);
        check.due("treeSize(4)", x.treeSize(4), 5);
        LogicHeapCollector y = new LogicHeapCollector(8, 64);
        for (int r = 0; r < 8; r++) {
            y.newVar(r);
        }
        for (int v = 0; v < 8; v++) {
            for (int t = 0; t < 8; t++) {
                check.due("bind(" + v + ", " + t + ")", y.bind(v, t), Check.OK);
                check.due("kind(" + v + ")", y.kind(v), Check.VAR);
                check.due("sameVar(" + v + ", " + t + ")", y.sameVar(v, t), true);
            }
        }
    }

    private static void changesNothingElse() {
        check.sentence("Unchanged: `used()`, the term held by every root, every variable other "
            + "than the one that the call binds (if any) and every existing binding, the choice "
            + "points.");
        Scene mixed = Scene.mixed();
        Scene bound = mixed.after(Call.bind(5, 3));
        check.due("used()", bound.make().used(), mixed.make().used());
        check.due("choice points that fit", bound.choicesThatFit(), mixed.choicesThatFit());
        check.due("snapshots", bound.levels().subList(1, 4), mixed.levels().subList(1, 4));
        LogicHeapCollector x = bound.make();
        LogicHeapCollector y = mixed.make();
        for (int r = 0; r < 5; r++) {
            check.dueTerm("root " + r, x, r, y.kind(r), y.value(r), y.arity(r), y.treeSize(r));
        }
        check.due("sameVar(0, 0)", x.sameVar(0, 0), true);
        for (int r = 5; r <= 6; r++) {
            check.dueTerm("root " + r, x, r, Check.STRUCT, 9, 2, 11);
        }
    }
}
