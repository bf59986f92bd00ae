/**
 * Every promise over long mixed runs: the class, the same class with collect calls put in
 * between (promise 11), and the model must give the same answer to every call.
 */
final class ModelTest {
    private static final int RUNS = 3000;
    private static final int CALLS = 250;
    private static final int[] ODD = {Integer.MIN_VALUE, Integer.MAX_VALUE, -1, 8, 9, 4096, -32769,
        32768, 5, 0, Integer.MIN_VALUE + 4, Integer.MAX_VALUE - 3, 1 << 29};

    private static final Check check = new Check();
    private static long seed = 1;

    private final LogicHeapCollector plain;
    private final LogicHeapCollector collected;
    private final Model model;
    private final int roots;
    private final int style;

    private ModelTest(int roots, int budget, int style) {
        plain = new LogicHeapCollector(roots, budget);
        collected = new LogicHeapCollector(roots, budget);
        model = new Model(roots, budget);
        this.roots = Math.max(2, Math.min(8, roots));
        this.style = style;
    }

    public static void main(String[] args) {
        // One wrong run tells enough: what follows a wrong answer is mostly wrong too.
        for (int run = 1; run <= RUNS && check.allDue(); run++) {
            seed = run;
            int roots = below(20) == 0 ? odd() : below(12);
            int budget = below(20) == 0 ? odd() : 10 + below(240);
            ModelTest test = new ModelTest(roots, budget, below(4));
            for (int call = 1; call <= CALLS; call++) {
                String where = "run " + run + ", call " + call + ": ";
                test.callOnce(where);
                test.compareState(where);
            }
        }
        check.finish();
    }

    /** A fixed sequence of numbers, the same in every run of the test. */
    private static int below(int bound) {
        seed = seed * 6364136223846793005L + 1442695040888963407L;
        return (int) ((seed >>> 33) % bound);
    }

    private static int odd() {
        return ODD[below(ODD.length)];
    }

    private int root() {
        return below(60) == 0 ? odd() : below(roots);
    }

    private void callOnce(String where) {
        if (below(3) == 0) {
            collected.collect();
        }
        int pick = below(100);
        if (pick < 12) {
            callSetConst(where);
        } else if (pick < 27) {
            int r = root();
            same(where + "newVar(" + r + ")", model.newVar(r), plain.newVar(r),
                collected.newVar(r));
        } else if (pick < 47) {
            callBuild(where);
        } else if (pick < 55) {
            int dst = root();
            int src = root();
            same(where + "move(" + dst + ", " + src + ")", model.move(dst, src),
                plain.move(dst, src), collected.move(dst, src));
        } else if (pick < 63) {
            callGetArg(where);
        } else if (pick < 85) {
            int v = root();
            int t = root();
            same(where + "bind(" + v + ", " + t + ")", model.bind(v, t), plain.bind(v, t),
                collected.bind(v, t));
        } else {
            callChoice(where, pick);
        }
    }

    private void callSetConst(String where) {
        int r = root();
        int k = below(15) == 0 ? below(7) - 1 : Check.ATOM + below(2);
        int v = below(15) == 0 ? odd() : below(4096);
        same(where + "setConst(" + r + ", " + k + ", " + v + ")", model.setConst(r, k, v),
            plain.setConst(r, k, v), collected.setConst(r, k, v));
    }

    private void callBuild(String where) {
        int dst = root();
        int f = below(40) == 0 ? odd() : below(4096);
        int n = below(40) == 0 ? odd() : 1 + below(4);
        int first = below(40) == 0 ? odd() : below(roots);
        if (style == 0 && below(2) == 0) {
            // Twins make tree sizes grow past the limit.
            dst = 0;
            first = 0;
            for (int r = 1; r < roots; r++) {
                model.move(r, 0);
                plain.move(r, 0);
                collected.move(r, 0);
            }
        }
        String call = "build(" + dst + ", " + f + ", " + n + ", " + first + ")";
        same(where + call, model.build(dst, f, n, first), plain.build(dst, f, n, first),
            collected.build(dst, f, n, first));
    }

    private void callGetArg(String where) {
        int dst = root();
        int src = root();
        int k = below(40) == 0 ? odd() : below(6);
        same(where + "getArg(" + dst + ", " + src + ", " + k + ")", model.getArg(dst, src, k),
            plain.getArg(dst, src, k), collected.getArg(dst, src, k));
    }

    private void callChoice(String where, int pick) {
        // One style pushes rarely, so that long runs without choice points occur too.
        if (pick < 92 && (style != 1 || below(6) == 0)) {
            same(where + "pushChoice()", model.pushChoice(), plain.pushChoice(),
                collected.pushChoice());
        } else if (pick < 97) {
            same(where + "backtrack()", model.backtrack(), plain.backtrack(),
                collected.backtrack());
        } else {
            same(where + "popChoice()", model.popChoice(), plain.popChoice(),
                collected.popChoice());
        }
    }

    private void compareState(String where) {
        same(where + "used()", model.used(), plain.used(), collected.used());
        for (int r = -1; r <= roots; r++) {
            same(where + "kind(" + r + ")", model.kind(r), plain.kind(r), collected.kind(r));
            same(where + "value(" + r + ")", model.value(r), plain.value(r), collected.value(r));
            same(where + "arity(" + r + ")", model.arity(r), plain.arity(r), collected.arity(r));
            same(where + "treeSize(" + r + ")", model.treeSize(r), plain.treeSize(r),
                collected.treeSize(r));
            int other = below(roots);
            same(where + "sameVar(" + r + ", " + other + ")", model.sameVar(r, other),
                plain.sameVar(r, other), collected.sameVar(r, other));
        }
    }

    private static void same(String call, Object want, Object got, Object collectedGot) {
        check.due(call, got, want);
        check.due(call + " with collect() in between", collectedGot, want);
    }
}
