/** Promise 6, sentence by sentence. */
final class GetArgEdgeTest {
    private static final int MIN = Integer.MIN_VALUE;
    private static final int MAX = Integer.MAX_VALUE;
    private static final Check check = new Check();

    public static void main(String[] args) {
        needsAValidDestination();
        needsAValidSource();
        refusesWhatIsNoStructure();
        refusesZeroAndAboveTheArity();
        takesTheFirstAndTheLastArgument();
        sharesTheArgument();
        ontoItsSource();
        changesOneRootOnly();
        check.finish();
    }

    private static void needsAValidDestination() {
        check.sentence("(1) `dst` is a valid root");
        for (Scene scene : Scene.all()) {
            for (int dst : Check.noRoots(scene.roots)) {
                for (int src = 0; src < scene.roots; src++) {
                    check.refuses(scene, Call.getArg(dst, src, 1));
                }
            }
        }
    }

    private static void needsAValidSource() {
        check.sentence("(2) `src` is a valid root");
        for (Scene scene : Scene.all()) {
            for (int src : Check.noRoots(scene.roots)) {
                check.refuses(scene, Call.getArg(0, src, 1));
                check.refuses(scene, Call.getArg(src, src, 1));
            }
        }
    }

    private static void refusesWhatIsNoStructure() {
        check.sentence("If root `src` dereferences to an unbound variable, an atom or an integer, "
            + "the call is refused at (3)");
        Scene scene = new Scene("roots without a structure", 7, () -> {
            LogicHeapCollector x = new LogicHeapCollector(7, 32);
            x.setConst(0, Check.ATOM, 1);
            x.setConst(1, Check.INT, 1);
            x.newVar(2);
            for (int r = 3; r <= 5; r++) {
                x.newVar(r);
                x.bind(r, r - 3);
            }
            x.build(6, 4, 4, 0);
            return x;
        });
        for (int src = 0; src <= 5; src++) {
            for (int k : new int[] {0, 1, 2, 4, -1, MIN, MAX}) {
                check.refuses(scene, Call.getArg(6, src, k));
                check.refuses(scene, Call.getArg(src, src, k));
            }
        }
    }

    private static void refusesZeroAndAboveTheArity() {
        check.sentence("`k = 0` or `k` above the arity is refused at (4)");
        for (int n = 1; n <= 4; n++) {
            int arity = n;
            Scene scene = new Scene("a structure of arity " + n, 6, () -> nested(arity));
            for (int k : new int[] {0, -1, -2, n + 1, n + 2, 5, 8, 256 + n, 65536 + n, 1 << 30, MIN,
                MIN + 1, MIN + n, MAX - 1, MAX}) {
                check.refuses(scene, Call.getArg(5, 4, k));
                check.refuses(scene, Call.getArg(4, 4, k));
            }
        }
    }

    private static void takesTheFirstAndTheLastArgument() {
        check.sentence("(4) `1 <= k <=` its arity");
        for (int n = 1; n <= 4; n++) {
            for (int k = 1; k <= n; k++) {
                LogicHeapCollector x = nested(n);
                check.due("getArg(5, 4, " + k + ") of arity " + n, x.getArg(5, 4, k), true);
                check.dueTerm("the argument", x, 5, Check.INT, 20 + k, 0, 1);
                check.dueTerm("the structure", x, 4, Check.STRUCT, 9, n, 1 + n);
            }
        }
    }

    /** Root 4 a structure of this arity over integers, with other structures beside it. */
    private static LogicHeapCollector nested(int n) {
        LogicHeapCollector x = new LogicHeapCollector(6, 32);
        x.build(5, 1, 4, 0);
        for (int r = 0; r < 4; r++) {
            x.setConst(r, Check.INT, 21 + r);
        }
        x.build(4, 9, n, 0);
        x.build(5, 2, 4, 1);
        return x;
    }

    private static void sharesTheArgument() {
        check.sentence("root `dst` holds the `k`-th argument of that structure, shared as it is "
            + "stored in the structure");
        LogicHeapCollector x = new LogicHeapCollector(6, 32);
        x.newVar(0);
        x.newVar(1);
        x.build(2, 4, 2, 0);
        x.bind(0, 1);
        x.getArg(3, 2, 1);
        x.getArg(4, 2, 2);
        check.due("sameVar(3, 4)", x.sameVar(3, 4), true);
        check.due("sameVar(3, 0)", x.sameVar(3, 0), true);
        x.bind(4, 5);
        check.dueTerm("bound through the argument", x, 1, Check.ATOM, 0, 0, 1);
        check.dueTerm("the other argument", x, 3, Check.ATOM, 0, 0, 1);
        check.due("used()", x.used(), 5);
    }

    private static void ontoItsSource() {
        check.sentence("`dst` may equal `src`");
        for (int n = 1; n <= 4; n++) {
            for (int k = 1; k <= n; k++) {
                LogicHeapCollector x = nested(n);
                x.move(5, 4);
                check.due("getArg(4, 4, " + k + ")", x.getArg(4, 4, k), true);
                check.dueTerm("the argument", x, 4, Check.INT, 20 + k, 0, 1);
                check.dueTerm("the structure elsewhere", x, 5, Check.STRUCT, 9, n, 1 + n);
            }
        }
    }

    private static void changesOneRootOnly() {
        check.sentence("Unchanged: `used()`, every other root, the structure itself, every "
            + "variable and binding, the choice points.");
        for (Scene scene : Scene.all()) {
            for (int src = 0; src < scene.roots; src++) {
                int arity = scene.make().arity(src);
                for (int k = 1; k <= arity; k++) {
                    for (int dst = 0; dst < scene.roots; dst++) {
                        check.setsRoot(scene, Call.getArg(dst, src, k), dst, 0);
                    }
                }
            }
        }
    }
}
