/** Promise 14, sentence by sentence. */
final class ArityEdgeTest {
    private static final Check check = new Check();

    public static void main(String[] args) {
        answersZeroForNoRoot();
        answersTheArityOfAStructure();
        answersZeroForOtherTerms();
        changesNothing();
        check.finish();
    }

    private static void answersZeroForNoRoot() {
        check.sentence("if `r` is a valid root and that term is a structure (a value from 1 to "
            + "`MAX_ARITY`); otherwise 0");
        for (Scene scene : Scene.all()) {
            for (int r : Check.noRoots(scene.roots)) {
                check.keeps(scene, Call.arity(r), 0);
            }
        }
        for (int roots = 2; roots <= 8; roots++) {
            LogicHeapCollector x = new LogicHeapCollector(roots, 32);
            for (int r = 0; r < roots; r++) {
                x.build(r, 1, 1 + r % 2, 0);
            }
            check.due("arity(-1)", x.arity(-1), 0);
            check.due("arity(0)", x.arity(0), 1);
            check.due("arity(" + (roots - 1) + ")", x.arity(roots - 1), 2 - roots % 2);
            check.due("arity(" + roots + ")", x.arity(roots), 0);
        }
    }

    private static void answersTheArityOfAStructure() {
        check.sentence("answers the arity of the dereferenced term of root `r`");
        for (int n = 1; n <= 4; n++) {
            for (int f : new int[] {0, 4095}) {
                LogicHeapCollector x = new LogicHeapCollector(5, 240);
                for (int made = 0; made < 240 / (2 + n); made++) {
                    x.build(0, f, n, 0);
                    check.due("arity(0)", x.arity(0), n);
                    x.newVar(4);
                    x.bind(4, 0);
                    check.due("arity(4) of a bound variable", x.arity(4),
                        x.treeSize(0) > 1000 ? 0 : n);
                }
            }
        }
    }

    private static void answersZeroForOtherTerms() {
        check.sentence("otherwise 0");
        LogicHeapCollector x = new LogicHeapCollector(6, 32);
        x.setConst(0, Check.ATOM, 4);
        x.setConst(1, Check.INT, 4);
        x.newVar(2);
        x.build(5, 3, 3, 0);
        for (int r = 0; r < 3; r++) {
            x.newVar(3);
            x.bind(3, r);
            check.due("arity(" + r + ")", x.arity(r), 0);
            check.due("arity(3) of a bound variable", x.arity(3), 0);
        }
    }

    private static void changesNothing() {
        check.sentence("It changes nothing.");
        for (Scene scene : Scene.all()) {
            for (int r = 0; r < scene.roots; r++) {
                check.keeps(scene, Call.arity(r), scene.make().arity(r));
            }
        }
    }
}
