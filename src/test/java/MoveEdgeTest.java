/** Promise 5, sentence by sentence. */
final class MoveEdgeTest {
    private static final Check check = new Check();

    public static void main(String[] args) {
        needsAValidDestination();
        needsAValidSource();
        refusesEqualRootsThatAreNone();
        takesTheFirstAndTheLastRoot();
        sharesTheTerm();
        ontoItselfChangesNothing();
        changesOneRootOnly();
        check.finish();
    }

    private static void needsAValidDestination() {
        check.sentence("(1) `dst` is a valid root");
        for (Scene scene : Scene.all()) {
            for (int dst : Check.noRoots(scene.roots)) {
                check.refuses(scene, Call.move(dst, 0));
                check.refuses(scene, Call.move(dst, scene.roots - 1));
            }
        }
    }

    private static void needsAValidSource() {
        check.sentence("(2) `src` is a valid root");
        for (Scene scene : Scene.all()) {
            for (int src : Check.noRoots(scene.roots)) {
                check.refuses(scene, Call.move(0, src));
                check.refuses(scene, Call.move(scene.roots - 1, src));
            }
        }
    }

    private static void refusesEqualRootsThatAreNone() {
        check.sentence("Conditions: (1) `dst` is a valid root; (2) `src` is a valid root.");
        for (Scene scene : Scene.all()) {
            for (int r : Check.noRoots(scene.roots)) {
                check.refuses(scene, Call.move(r, r));
            }
        }
    }

    private static void takesTheFirstAndTheLastRoot() {
        check.sentence("root `dst` holds the term that root `src` holds");
        for (int roots = 2; roots <= 8; roots++) {
            for (int way = 0; way < 2; way++) {
                int dst = way == 0 ? 0 : roots - 1;
                int src = roots - 1 - dst;
                LogicHeapCollector x = new LogicHeapCollector(roots, 16);
                x.setConst(src, Check.INT, -9);
                check.due("move(" + dst + ", " + src + ")", x.move(dst, src), true);
                check.dueTerm("the copy", x, dst, Check.INT, -9, 0, 1);
                check.dueTerm("the source", x, src, Check.INT, -9, 0, 1);
            }
        }
    }

    private static void sharesTheTerm() {
        check.sentence("the same term, shared; a variable stays that very variable");
        LogicHeapCollector x = new LogicHeapCollector(5, 32);
        x.newVar(0);
        x.build(1, 4, 1, 0);
        x.move(2, 0);
        x.move(3, 1);
        check.due("used()", x.used(), 3);
        check.due("sameVar(2, 0)", x.sameVar(2, 0), true);
        x.setConst(0, Check.ATOM, 0);
        x.bind(2, 4);
        check.due("treeSize(3)", x.treeSize(3), 2);
        x.getArg(3, 3, 1);
        check.dueTerm("bound through the copy", x, 3, Check.ATOM, 0, 0, 1);
    }

    private static void ontoItselfChangesNothing() {
        check.sentence("With `dst = src` nothing changes and the answer is `true`.");
        for (Scene scene : Scene.all()) {
            for (int r = 0; r < scene.roots; r++) {
                check.keeps(scene, Call.move(r, r), true);
            }
        }
    }

    private static void changesOneRootOnly() {
        check.sentence("Unchanged: `used()`, every other root, every variable and binding, the "
            + "choice points.");
        for (Scene scene : Scene.all()) {
            for (int dst = 0; dst < scene.roots; dst++) {
                for (int src = 0; src < scene.roots; src++) {
                    check.setsRoot(scene, Call.move(dst, src), dst, 0);
                }
            }
        }
    }
}
