/** Promise 15, sentence by sentence. */
final class SameVarEdgeTest {
    private static final Check check = new Check();

    public static void main(String[] args) {
        answersFalseForNoRoot();
        answersTrueForOneUnboundVariable();
        answersFalseForEqualTermsThatAreNone();
        aRootWithItself();
        changesNothing();
        check.finish();
    }

    private static void answersFalseForNoRoot() {
        check.sentence("answers `true` iff `r1` and `r2` are valid roots");
        for (Scene scene : Scene.all()) {
            for (int r : Check.noRoots(scene.roots)) {
                for (int other = 0; other < scene.roots; other++) {
                    check.due(scene.name + ": sameVar(" + r + ", " + other + ")",
                        scene.make().sameVar(r, other), false);
                    check.due(scene.name + ": sameVar(" + other + ", " + r + ")",
                        scene.make().sameVar(other, r), false);
                }
                check.keeps(scene, Call.sameVar(r, 0), false);
                check.keeps(scene, Call.sameVar(0, r), false);
                check.keeps(scene, Call.sameVar(r, r), false);
            }
        }
        for (int roots = 2; roots <= 8; roots++) {
            LogicHeapCollector x = new LogicHeapCollector(roots, 16);
            x.newVar(0);
            for (int r = 1; r < roots; r++) {
                x.move(r, 0);
            }
            check.due("the first and the last root", x.sameVar(0, roots - 1), true);
            check.due("the last and the first root", x.sameVar(roots - 1, 0), true);
            check.due("one past the last", x.sameVar(0, roots), false);
            check.due("one before the first", x.sameVar(-1, 0), false);
        }
    }

    private static void answersTrueForOneUnboundVariable() {
        check.sentence("their dereferenced terms are one and the same unbound variable");
        LogicHeapCollector x = new LogicHeapCollector(6, 32);
        x.newVar(0);
        x.newVar(1);
        x.move(2, 1);
        x.newVar(3);
        x.bind(3, 1);
        for (int r = 1; r <= 3; r++) {
            for (int other = 1; other <= 3; other++) {
                check.due("sameVar(" + r + ", " + other + ")", x.sameVar(r, other), true);
            }
            check.due("sameVar(0, " + r + ")", x.sameVar(0, r), false);
            check.due("sameVar(" + r + ", 0)", x.sameVar(r, 0), false);
        }
        x.bind(0, 5);
        check.due("a bound and an unbound one", x.sameVar(0, 1), false);
        x.bind(2, 5);
        check.due("two bound to equal atoms", x.sameVar(0, 1), false);
        check.due("one bound variable twice", x.sameVar(1, 2), false);
    }

    private static void answersFalseForEqualTermsThatAreNone() {
        check.sentence("one and the same unbound variable");
        LogicHeapCollector x = new LogicHeapCollector(4, 32);
        int[][] constants = {{Check.ATOM, 0}, {Check.ATOM, 1}, {Check.INT, 0}, {Check.INT, -1}};
        for (int[] row : constants) {
            x.setConst(0, row[0], row[1]);
            x.setConst(1, row[0], row[1]);
            check.due("equal constants", x.sameVar(0, 1), false);
            x.newVar(2);
            check.due("a constant and a variable", x.sameVar(0, 2), false);
            check.due("a variable and a constant", x.sameVar(2, 0), false);
        }
        x.build(0, 3, 2, 2);
        x.move(1, 0);
        check.due("one structure twice", x.sameVar(0, 1), false);
    }

    private static void aRootWithItself() {
        check.sentence("With `r1 = r2` it answers `true` exactly when that root dereferences to an "
            + "unbound variable.");
        for (Scene scene : Scene.all()) {
            LogicHeapCollector x = scene.make();
            for (int r = 0; r < scene.roots; r++) {
                check.due(scene.name + ": sameVar(" + r + ", " + r + ")", x.sameVar(r, r),
                    x.kind(r) == Check.VAR);
            }
        }
        LogicHeapCollector x = new LogicHeapCollector(3, 16);
        check.due("an atom", x.sameVar(0, 0), false);
        x.setConst(0, Check.INT, 1);
        check.due("an integer", x.sameVar(0, 0), false);
        x.build(1, 1, 1, 0);
        check.due("a structure", x.sameVar(1, 1), false);
        x.newVar(2);
        check.due("an unbound variable", x.sameVar(2, 2), true);
        x.bind(2, 0);
        check.due("a bound variable", x.sameVar(2, 2), false);
    }

    private static void changesNothing() {
        check.sentence("It changes nothing.");
        for (Scene scene : Scene.all()) {
            for (int r = 0; r < scene.roots; r++) {
                for (int other = 0; other < scene.roots; other++) {
                    check.keeps(scene, Call.sameVar(r, other), scene.make().sameVar(r, other));
                }
            }
        }
    }
}
