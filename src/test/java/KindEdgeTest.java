/** Promise 12, sentence by sentence. */
final class KindEdgeTest {
    private static final Check check = new Check();

    public static void main(String[] args) {
        answersNoneForNoRoot();
        answersForTheFirstAndTheLastRoot();
        answersTheKindOfEachTerm();
        changesNothing();
        check.finish();
    }

    private static void answersNoneForNoRoot() {
        check.sentence("answers `KIND_NONE` if `r` is not a valid root");
        for (Scene scene : Scene.all()) {
            for (int r : Check.noRoots(scene.roots)) {
                check.keeps(scene, Call.kind(r), Check.NONE);
            }
        }
    }

    private static void answersForTheFirstAndTheLastRoot() {
        check.sentence("A valid root is an int `r` with `0 <= r < R`.");
        for (int roots = 2; roots <= 8; roots++) {
            LogicHeapCollector x = new LogicHeapCollector(roots, 16);
            x.setConst(roots - 1, Check.INT, 0);
            check.due("kind(-1)", x.kind(-1), Check.NONE);
            check.due("kind(0)", x.kind(0), Check.ATOM);
            check.due("kind(" + (roots - 1) + ")", x.kind(roots - 1), Check.INT);
            check.due("kind(" + roots + ")", x.kind(roots), Check.NONE);
        }
    }

    private static void answersTheKindOfEachTerm() {
        check.sentence("Otherwise it answers the kind of the dereferenced term of root `r`: "
            + "`KIND_VAR` (an unbound variable), `KIND_ATOM`, `KIND_INT` or `KIND_STRUCT`.");
        LogicHeapCollector x = new LogicHeapCollector(8, 32);
        int[] kinds = {Check.VAR, Check.ATOM, Check.INT, Check.STRUCT};
        x.newVar(0);
        x.setConst(1, Check.ATOM, 4095);
        x.setConst(2, Check.INT, -32768);
        x.build(3, 4095, 3, 0);
        for (int r = 0; r < 4; r++) {
            x.newVar(4 + r);
            x.bind(4 + r, r);
            check.due("kind(" + r + ")", x.kind(r), kinds[r]);
            check.due("kind(" + (4 + r) + ") of a bound variable", x.kind(4 + r), kinds[r]);
        }
    }

    private static void changesNothing() {
        check.sentence("It changes nothing.");
        for (Scene scene : Scene.all()) {
            for (int r = 0; r < scene.roots; r++) {
                check.keeps(scene, Call.kind(r), scene.make().kind(r));
            }
        }
    }
}
