/** Promise 13, sentence by sentence. */
final class ValueEdgeTest {
    private static final Check check = new Check();

    public static void main(String[] args) {
        answersZeroForNoRoot();
        answersTheAtom();
        answersTheInteger();
        answersTheFunctorName();
        answersZeroForAVariable();
        looksThroughBindings();
        changesNothing();
        check.finish();
    }

    private static void answersZeroForNoRoot() {
        check.sentence("answers 0 if `r` is not a valid root");
        for (Scene scene : Scene.all()) {
            for (int r : Check.noRoots(scene.roots)) {
                check.keeps(scene, Call.value(r), 0);
            }
        }
        for (int roots = 2; roots <= 8; roots++) {
            LogicHeapCollector x = new LogicHeapCollector(roots, 16);
            for (int r = 0; r < roots; r++) {
                x.setConst(r, Check.ATOM, 30 + r);
            }
            check.due("value(-1)", x.value(-1), 0);
            check.due("value(0)", x.value(0), 30);
            check.due("value(" + (roots - 1) + ")", x.value(roots - 1), 29 + roots);
            check.due("value(" + roots + ")", x.value(roots), 0);
        }
    }

    private static void answersTheAtom() {
        check.sentence("it answers the atom number for an atom");
        LogicHeapCollector x = new LogicHeapCollector(2, 16);
        for (int v = 0; v <= 4095; v++) {
            check.due("setConst(1, ATOM, " + v + ")", x.setConst(1, Check.ATOM, v), true);
            check.due("value(1)", x.value(1), v);
        }
    }

    private static void answersTheInteger() {
        check.sentence("the integer for an integer (negative values included)");
        LogicHeapCollector x = new LogicHeapCollector(2, 16);
        for (int v = -32768; v <= 32767; v++) {
            check.due("setConst(1, INT, " + v + ")", x.setConst(1, Check.INT, v), true);
            check.due("value(1)", x.value(1), v);
        }
    }

    private static void answersTheFunctorName() {
        check.sentence("the functor name for a structure");
        for (int f : new int[] {0, 1, 2, 7, 8, 2047, 2048, 4094, 4095}) {
            for (int n = 1; n <= 4; n++) {
                LogicHeapCollector x = new LogicHeapCollector(4, 240);
                for (int made = 0; made < 240 / (1 + n); made++) {
                    x.build(0, f, n, 0);
                    check.due("value(0)", x.value(0), f);
                }
            }
        }
    }

    private static void answersZeroForAVariable() {
        check.sentence("and 0 for an unbound variable");
        LogicHeapCollector x = new LogicHeapCollector(2, 240);
        x.setConst(1, Check.INT, 9);
        for (int made = 0; made < 240; made++) {
            x.newVar(1);
            check.due("value(1) of variable " + made, x.value(1), 0);
        }
    }

    private static void looksThroughBindings() {
        check.sentence("for the dereferenced term of root `r`");
        LogicHeapCollector x = new LogicHeapCollector(8, 32);
        x.setConst(0, Check.ATOM, 4095);
        x.setConst(1, Check.INT, -32768);
        x.build(2, 17, 2, 0);
        x.newVar(3);
        int[] values = {4095, -32768, 17, 0};
        for (int r = 0; r < 4; r++) {
            x.newVar(4 + r);
            x.bind(4 + r, r);
            check.due("value(" + (4 + r) + ")", x.value(4 + r), values[r]);
        }
    }

    private static void changesNothing() {
        check.sentence("It changes nothing.");
        for (Scene scene : Scene.all()) {
            for (int r = 0; r < scene.roots; r++) {
                check.keeps(scene, Call.value(r), scene.make().value(r));
            }
        }
    }
}
