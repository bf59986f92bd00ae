/** Promise 2, sentence by sentence. */
final class SetConstEdgeTest {
    private static final int MIN = Integer.MIN_VALUE;
    private static final int MAX = Integer.MAX_VALUE;
    private static final Check check = new Check();

    public static void main(String[] args) {
        needsAValidRoot();
        needsTheKindOfAConstant();
        atomsKeepToTheirRange();
        integersKeepToTheirRange();
        boundsAreTaken();
        rangesAreNotMixedUp();
        usesNoCells();
        changesOneRootOnly();
        check.finish();
    }

    private static void needsAValidRoot() {
        check.sentence("(1) `r` is a valid root");
        for (Scene scene : Scene.all()) {
            for (int r : Check.noRoots(scene.roots)) {
                check.refuses(scene, Call.setConst(r, Check.ATOM, 0));
                check.refuses(scene, Call.setConst(r, Check.INT, 0));
            }
            check.due("setConst(0, ..)", scene.make().setConst(0, Check.ATOM, 0), true);
            int last = scene.roots - 1;
            check.due("setConst(" + last + ", ..)", scene.make().setConst(last, Check.INT, 0),
                true);
        }
    }

    private static void needsTheKindOfAConstant() {
        check.sentence("`k` equal to `KIND_NONE`, `KIND_VAR`, `KIND_STRUCT` or any other value is "
            + "refused");
        for (Scene scene : Scene.all()) {
            for (int k : new int[] {Check.NONE, Check.VAR, Check.STRUCT, -1, -2, -3, 5, 6, 7, 8, 10,
                11, 258, 259, 65538, MIN, MIN + 2, MIN + 3, MAX}) {
                check.refuses(scene, Call.setConst(0, k, 0));
            }
        }
    }

    private static void atomsKeepToTheirRange() {
        check.sentence("(3) if `k` is `KIND_ATOM`, then `0 <= v <= MAX_NAME`");
        for (Scene scene : Scene.all()) {
            for (int v : new int[] {-1, -2, 4096, 4097, 65536, -65536, 1 << 16 | 5, 1 << 29,
                1 << 30, MIN, MIN + 5, MIN + 1, MAX - 1, MAX}) {
                check.refuses(scene, Call.setConst(1, Check.ATOM, v));
            }
        }
    }

    private static void integersKeepToTheirRange() {
        check.sentence("if `k` is `KIND_INT`, then `MIN_INT <= v <= MAX_INT`");
        for (Scene scene : Scene.all()) {
            for (int v : new int[] {-32769, -32770, 32768, 32769, 65535, 65536, -65536, 1 << 29,
                1 << 30, MIN, MIN + 5, MIN + 1, MAX - 1, MAX}) {
                check.refuses(scene, Call.setConst(1, Check.INT, v));
            }
        }
    }

    private static void boundsAreTaken() {
        check.sentence("Bounds are inclusive: atom 0, atom `MAX_NAME`, integer `MIN_INT` and "
            + "integer `MAX_INT` are accepted");
        for (Scene scene : Scene.all()) {
            taken(scene, Check.ATOM, 0);
            taken(scene, Check.ATOM, 1);
            taken(scene, Check.ATOM, 4094);
            taken(scene, Check.ATOM, 4095);
            taken(scene, Check.INT, -32768);
            taken(scene, Check.INT, -32767);
            taken(scene, Check.INT, -1);
            taken(scene, Check.INT, 0);
            taken(scene, Check.INT, 32766);
            taken(scene, Check.INT, 32767);
        }
    }

    private static void taken(Scene scene, int k, int v) {
        LogicHeapCollector x = scene.make();
        String call = scene.name + ": setConst(1, " + k + ", " + v + ")";
        check.due(call, x.setConst(1, k, v), true);
        check.dueTerm(call, x, 1, k, v, 0, 1);
    }

    private static void rangesAreNotMixedUp() {
        check.sentence("root `r` holds the atom `v` (or the integer `v`)");
        Scene scene = Scene.mixed();
        check.refuses(scene, Call.setConst(0, Check.ATOM, -32768));
        check.refuses(scene, Call.setConst(0, Check.ATOM, 32767));
        taken(scene, Check.INT, 4096);
        taken(scene, Check.INT, -4095);
    }

    private static void usesNoCells() {
        check.sentence("Unchanged: `used()` (constants use no cells)");
        Scene full = Scene.fullBudget();
        for (int r = 0; r < full.roots; r++) {
            check.setsRoot(full, Call.setConst(r, Check.ATOM, 4095), r, 0);
        }
        LogicHeapCollector x = new LogicHeapCollector(2, 16);
        for (int made = 0; made < 1000; made++) {
            check.due("setConst as number " + made, x.setConst(0, Check.INT, made), true);
        }
        check.due("used()", x.used(), 0);
    }

    private static void changesOneRootOnly() {
        check.sentence("every other root, every variable and binding, the choice points");
        for (Scene scene : Scene.all()) {
            for (int r = 0; r < scene.roots; r++) {
                check.setsRoot(scene, Call.setConst(r, Check.ATOM, 4095), r, 0);
                check.setsRoot(scene, Call.setConst(r, Check.INT, -32768), r, 0);
            }
        }
    }
}
