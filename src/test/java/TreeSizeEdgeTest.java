import java.math.BigInteger;

/** Promise 16, sentence by sentence. */
final class TreeSizeEdgeTest {
    private static final Check check = new Check();

    public static void main(String[] args) {
        answersZeroForNoRoot();
        simpleTermsHaveSizeOne();
        answersEverySizeUpToTheLimit();
        answersOneMoreAboveTheLimit();
        countsEachOccurrence();
        staysOneAboveBeyondInt();
        sumsOfArgumentsBeyondInt();
        towersOfEveryArity();
        looksThroughBindings();
        changesNothing();
        check.finish();
    }

    private static void answersZeroForNoRoot() {
        check.sentence("answers 0 if `r` is not a valid root");
        for (Scene scene : Scene.all()) {
            for (int r : Check.noRoots(scene.roots)) {
                check.keeps(scene, Call.treeSize(r), 0);
            }
        }
        for (int roots = 2; roots <= 8; roots++) {
            LogicHeapCollector x = new LogicHeapCollector(roots, 16);
            x.build(roots - 1, 1, 2, 0);
            check.due("treeSize(-1)", x.treeSize(-1), 0);
            check.due("treeSize(0)", x.treeSize(0), 1);
            check.due("treeSize(" + (roots - 1) + ")", x.treeSize(roots - 1), 3);
            check.due("treeSize(" + roots + ")", x.treeSize(roots), 0);
        }
    }

    private static void simpleTermsHaveSizeOne() {
        check.sentence("1 for an unbound variable, an atom or an integer");
        LogicHeapCollector x = new LogicHeapCollector(4, 240);
        for (int v : new int[] {0, 1, 4095}) {
            x.setConst(0, Check.ATOM, v);
            check.due("treeSize of atom " + v, x.treeSize(0), 1);
        }
        for (int v : new int[] {-32768, -1, 0, 32767}) {
            x.setConst(0, Check.INT, v);
            check.due("treeSize of integer " + v, x.treeSize(0), 1);
        }
        for (int made = 0; made < 240; made++) {
            x.newVar(1);
            check.due("treeSize of a variable", x.treeSize(1), 1);
        }
    }

    private static void answersEverySizeUpToTheLimit() {
        check.sentence("the tree size of the term of root `r` if that size is at most "
            + "`TREE_LIMIT`");
        for (int size = 1; size <= 1000; size++) {
            LogicHeapCollector x = new LogicHeapCollector(3, 240);
            Check.grow(x, size);
            check.due("treeSize(1)", x.treeSize(1), size);
        }
    }

    private static void answersOneMoreAboveTheLimit() {
        check.sentence("else `TREE_LIMIT + 1`");
        for (int size = 1001; size <= 3005; size++) {
            LogicHeapCollector x = new LogicHeapCollector(3, 240);
            Check.grow(x, size);
            check.due("treeSize(1), truly " + size, x.treeSize(1), 1001);
        }
    }

    private static void countsEachOccurrence() {
        check.sentence("Shared subterms count once per occurrence");
        LogicHeapCollector x = new LogicHeapCollector(5, 32);
        x.newVar(0);
        for (int r = 1; r < 4; r++) {
            x.move(r, 0);
        }
        x.build(4, 1, 4, 0);
        check.due("f(X, X, X, X)", x.treeSize(4), 5);
        for (int r = 0; r < 4; r++) {
            x.move(r, 4);
        }
        x.build(4, 1, 4, 0);
        check.due("four times that", x.treeSize(4), 21);
    }

    private static void staysOneAboveBeyondInt() {
        check.sentence("even beyond the int range; the answer is still exactly `TREE_LIMIT + 1` "
            + "and is never affected by int wrap-around");
        for (BigInteger size : Check.hugeSizes()) {
            for (int leaf = 0; leaf < 2; leaf++) {
                LogicHeapCollector x = new LogicHeapCollector(4, 240);
                if (leaf == 1) {
                    x.newVar(0);
                }
                Check.grow(x, size);
                check.due("treeSize(1), truly " + size, x.treeSize(1), 1001);
                x.build(3, 1, 1, 1);
                check.due("treeSize(3), truly one more than " + size, x.treeSize(3), 1001);
            }
        }
    }

    /** Each argument's size is an int, but their sum is not, or wraps to a small number. */
    private static void sumsOfArgumentsBeyondInt() {
        check.sentence("for a structure, 1 plus the sum of the tree sizes of its arguments");
        for (int power = 28; power <= 34; power++) {
            for (int n = 1; n <= 4; n++) {
                for (int more = 0; more <= 2; more++) {
                    LogicHeapCollector x = new LogicHeapCollector(8, 240);
                    Check.grow(x, BigInteger.TWO.pow(power).subtract(BigInteger.ONE));
                    for (int done = 0; done < more; done++) {
                        x.build(1, 1, 1, 1);
                    }
                    for (int r = 3; r < 3 + n; r++) {
                        x.move(r, 1);
                    }
                    x.build(7, 2, n, 3);
                    check.due("treeSize over " + n + " times 2^" + power, x.treeSize(7), 1001);
                }
            }
        }
    }

    private static void towersOfEveryArity() {
        check.sentence("so the true size may be far larger than the number of cells");
        for (int n = 1; n <= 4; n++) {
            LogicHeapCollector x = new LogicHeapCollector(4, 240);
            BigInteger size = BigInteger.ONE;
            for (int level = 1; level <= 240 / (1 + n); level++) {
                for (int r = 1; r < n; r++) {
                    x.move(r, 0);
                }
                x.build(0, 2, n, 0);
                size = size.multiply(BigInteger.valueOf(n)).add(BigInteger.ONE);
                check.due("treeSize(0), truly " + size, x.treeSize(0),
                    size.min(BigInteger.valueOf(1001)).intValue());
            }
        }
    }

    private static void looksThroughBindings() {
        check.sentence("taken after dereferencing");
        for (int size : new int[] {1, 2, 998, 999, 1000}) {
            LogicHeapCollector x = new LogicHeapCollector(8, 240);
            x.newVar(3);
            x.newVar(4);
            x.bind(3, 4);
            x.build(5, 1, 1, 3);
            Check.grow(x, size);
            check.due("bind(4, 1)", x.bind(4, 1), Check.OK);
            check.due("treeSize(3)", x.treeSize(3), size);
            check.due("treeSize(4)", x.treeSize(4), size);
            check.due("treeSize(5)", x.treeSize(5), size + 1);
            x.build(6, 1, 2, 3);
            check.due("treeSize(6)", x.treeSize(6), Math.min(2 * size + 1, 1001));
        }
    }

    private static void changesNothing() {
        check.sentence("It changes nothing.");
        for (Scene scene : Scene.all()) {
            for (int r = 0; r < scene.roots; r++) {
                check.keeps(scene, Call.treeSize(r), scene.make().treeSize(r));
            }
        }
        for (int size : new int[] {1000, 1001, 100000}) {
            LogicHeapCollector x = new LogicHeapCollector(3, 240);
            x.newVar(0);
            Check.grow(x, size);
            String before = Check.state(x);
            for (int round = 0; round < 5; round++) {
                check.dueUnchanged("treeSize of " + size, x, before);
            }
            check.due("bind(0, 0)", x.bind(0, 0), Check.OK);
        }
    }
}
