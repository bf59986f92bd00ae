import java.util.ArrayList;
import java.util.List;
import java.util.function.Function;

/** The sentences under "Words used below" that hold for every call. */
final class WordsEdgeTest {
    private static final int MIN = Integer.MIN_VALUE;
    private static final int MAX = Integer.MAX_VALUE;
    private static final Check check = new Check();

    /** A call with arguments that are all inside, and for each the range that it must lie in. */
    private record Shape(int[] good, int[][] ranges, Object refusal, Function<int[], Call> call) { }

    public static void main(String[] args) {
        constantsKeepTheirRanges();
        structuresKeepEveryNameAndArity();
        variablesAreUnboundOrBound();
        dereferencedTermsAreNoBoundVariables();
        validRootsAreTheFirstOnes();
        eachRootHoldsOneTerm();
        dereferencingAlwaysEnds();
        structuresAreNeverCopied();
        holdersSeeLaterBindings();
        creationsUseTheirCells();
        creationsPastTheBudgetAreRefused();
        severalBadArgumentsAreRefused();
        refusedCallsChangeNothing();
        gettersAnswerForNoRoot();
        extremesAreOutsideEveryRange();
        wrapAroundLetsNothingPass();
        check.finish();
    }

    private static void constantsKeepTheirRanges() {
        check.sentence("an atom `a` with `0 <= a <= MAX_NAME`; an integer `i` with "
            + "`MIN_INT <= i <= MAX_INT`");
        LogicHeapCollector x = new LogicHeapCollector(2, 16);
        for (int v = -70000; v <= 70000; v++) {
            boolean atom = 0 <= v && v <= 4095;
            boolean integer = -32768 <= v && v <= 32767;
            check.due("setConst(0, ATOM, " + v + ")", x.setConst(0, Check.ATOM, v), atom);
            check.due("kind(0) and value(0)", x.kind(0) == Check.ATOM && x.value(0) == v, atom);
            check.due("setConst(0, INT, " + v + ")", x.setConst(0, Check.INT, v), integer);
            check.due("kind(0) and value(0)", x.kind(0) == Check.INT && x.value(0) == v, integer);
        }
    }

    private static void structuresKeepEveryNameAndArity() {
        check.sentence("a structure `f(t1..tn)` with functor name `f` (`0 <= f <= MAX_NAME`), "
            + "arity `n` (`1 <= n <= MAX_ARITY`) and argument terms `t1..tn`");
        LogicHeapCollector x = new LogicHeapCollector(4, 16);
        x.pushChoice();
        for (int f = 0; f <= 4095; f++) {
            for (int n = 1; n <= 4; n++) {
                check.due("build(0, " + f + ", " + n + ", 0)", x.build(0, f, n, 0), true);
                check.dueTerm("the structure", x, 0, Check.STRUCT, f, n, 1 + n);
                x.backtrack();
            }
        }
    }

    private static void variablesAreUnboundOrBound() {
        check.sentence("While it exists, a variable is either unbound or bound to a term.");
        for (int kind : new int[] {Check.ATOM, Check.INT, Check.STRUCT}) {
            LogicHeapCollector x = new LogicHeapCollector(4, 32);
            x.newVar(0);
            check.dueTerm("unbound", x, 0, Check.VAR, 0, 0, 1);
            check.due("an unbound one is itself", x.sameVar(0, 0), true);
            setTerm(x, 1, kind, 2);
            check.due("bind(0, 1)", x.bind(0, 1), Check.OK);
            check.dueTerm("bound", x, 0, kind, 5, x.arity(1), x.treeSize(1));
            check.due("a bound one is no unbound one", x.sameVar(0, 0), false);
            setTerm(x, 1, Check.INT, 2);
            check.due("bound it stays", x.bind(0, 1), Check.REFUSED);
            check.due("kind(0)", x.kind(0), kind);
        }
    }

    private static void setTerm(LogicHeapCollector x, int r, int kind, int first) {
        if (kind == Check.STRUCT) {
            x.build(r, 5, 2, first);
        } else {
            x.setConst(r, kind, 5);
        }
    }

    /** Every getter looks through a chain of variables, from whichever of them it starts. */
    private static void dereferencedTermsAreNoBoundVariables() {
        check.sentence("A dereferenced term is never a bound variable.");
        for (int kind : new int[] {Check.ATOM, Check.INT, Check.STRUCT}) {
            LogicHeapCollector x = new LogicHeapCollector(8, 64);
            for (int r = 7; r >= 2; r--) {
                x.newVar(r);
            }
            for (int r = 2; r < 7; r++) {
                check.due("bind(" + r + ", " + (r + 1) + ")", x.bind(r, r + 1), Check.OK);
                check.dueTerm("variables alone", x, 2, Check.VAR, 0, 0, 1);
                check.due("sameVar(2, " + (r + 1) + ")", x.sameVar(2, r + 1), true);
            }
            setTerm(x, 1, kind, 0);
            check.due("bind(4, 1)", x.bind(4, 1), Check.OK);
            for (int r = 2; r <= 7; r++) {
                check.dueTerm("root " + r, x, r, kind, 5, x.arity(1), x.treeSize(1));
                check.due("sameVar(" + r + ", " + r + ")", x.sameVar(r, r), false);
                check.due("getArg(0, " + r + ", 1)", x.getArg(0, r, 1), kind == Check.STRUCT);
                check.due("bind(" + r + ", 1)", x.bind(r, 1), Check.REFUSED);
            }
        }
    }

    private static void eachRootHoldsOneTerm() {
        check.sentence("The machine has `R` roots, numbered `0..R-1`; each holds one term.");
        for (int roots = 2; roots <= 8; roots++) {
            LogicHeapCollector x = new LogicHeapCollector(roots, 16);
            for (int r = 0; r < roots; r++) {
                x.setConst(r, r % 2 == 0 ? Check.ATOM : Check.INT, 100 + r);
            }
            x.setConst(roots, Check.ATOM, 1);
            for (int r = 0; r < roots; r++) {
                check.dueTerm("root " + r + " of " + roots, x, r,
                    r % 2 == 0 ? Check.ATOM : Check.INT, 100 + r, 0, 1);
            }
        }
    }

    private static void structuresAreNeverCopied() {
        check.sentence("Variables and structures are shared, never copied.");
        LogicHeapCollector x = new LogicHeapCollector(6, 32);
        x.newVar(0);
        x.build(1, 3, 1, 0);
        x.newVar(2);
        x.bind(2, 1);
        int used = x.used();
        x.move(3, 1);
        x.move(4, 2);
        x.getArg(5, 4, 1);
        check.due("used() after move and getArg", x.used(), used);
        x.build(4, 4, 4, 0);
        check.due("used() grows by the new structure alone", x.used(), used + 5);
        check.due("sameVar(5, 0)", x.sameVar(5, 0), true);
        x.setConst(0, Check.INT, 9);
        check.due("bind(5, 0)", x.bind(5, 0), Check.OK);
        for (int k = 2; k <= 4; k++) {
            x.getArg(5, 4, k);
            check.dueTerm("the structure as argument " + k, x, 5, Check.STRUCT, 3, 1, 2);
            x.getArg(5, 5, 1);
            check.dueTerm("its own argument", x, 5, Check.INT, 9, 0, 1);
        }
    }

    private static void holdersSeeLaterBindings() {
        check.sentence("A root or argument that holds a variable holds that very variable and sees "
            + "every later binding of it.");
        LogicHeapCollector x = new LogicHeapCollector(8, 64);
        for (int r = 0; r < 3; r++) {
            x.newVar(r);
        }
        x.build(3, 6, 3, 0);
        x.build(4, 7, 1, 3);
        x.move(5, 1);
        // First a variable, then a structure with a variable in it, then that one's constant.
        x.bind(0, 1);
        x.build(6, 8, 1, 2);
        x.bind(1, 6);
        x.setConst(6, Check.ATOM, 4);
        x.bind(2, 6);
        for (int r : new int[] {0, 1, 5}) {
            check.dueTerm("root " + r, x, r, Check.STRUCT, 8, 1, 2);
            x.getArg(6, r, 1);
            check.dueTerm("its argument", x, 6, Check.ATOM, 4, 0, 1);
        }
        check.due("treeSize(3)", x.treeSize(3), 6);
        check.due("treeSize(4)", x.treeSize(4), 7);
        x.getArg(6, 4, 1);
        x.getArg(7, 6, 3);
        check.dueTerm("an argument's third argument", x, 7, Check.ATOM, 4, 0, 1);
        x.getArg(7, 6, 1);
        check.dueTerm("an argument's first argument", x, 7, Check.STRUCT, 8, 1, 2);
    }

    private static void validRootsAreTheFirstOnes() {
        check.sentence("A valid root is an int `r` with `0 <= r < R`.");
        for (int roots = 2; roots <= 8; roots++) {
            for (int r = -1; r <= 9; r++) {
                boolean valid = 0 <= r && r < roots;
                LogicHeapCollector x = new LogicHeapCollector(roots, 16);
                String what = "root " + r + " of " + roots + ": ";
                check.due(what + "setConst", x.setConst(r, Check.INT, 6), valid);
                check.due(what + "move from", x.move(0, r), valid);
                check.due(what + "move to", x.move(r, 0), valid);
                check.due(what + "newVar", x.newVar(r), valid);
                check.due(what + "bind of", x.bind(r, r), valid ? Check.OK : Check.REFUSED);
                check.due(what + "build", x.build(r, 1, 1, 0), valid);
                check.due(what + "getArg from", x.getArg(0, r, 1), valid);
                x.build(0, 1, 1, 0);
                check.due(what + "getArg to", x.getArg(r, 0, 1), valid);
                x.newVar(0);
                check.due(what + "bind to", x.bind(0, r) == Check.REFUSED, !valid);
                check.due(what + "kind", x.kind(r) == Check.NONE, !valid);
                check.due(what + "treeSize", x.treeSize(r) == 0, !valid);
            }
        }
    }

    /** The longest chain that the roots and structures can keep at hand while it is bound. */
    private static void dereferencingAlwaysEnds() {
        check.sentence("Bindings never form a cycle, so dereferencing always ends.");
        LogicHeapCollector x = new LogicHeapCollector(8, 240);
        for (int link = 0; link < 29; link++) {
            x.newVar(1);
            x.newVar(2);
            x.newVar(3);
            x.build(0, 1, 4, 0);
        }
        x.move(7, 3);
        for (int link = 0; link < 29; link++) {
            for (int k = 4; k >= 2; k--) {
                x.getArg(6, 0, k);
                x.bind(7, 6);
                x.move(7, 6);
                check.due("the youngest and this one", x.sameVar(3, 7), true);
            }
            x.getArg(0, 0, 1);
        }
        x.setConst(0, Check.INT, -32768);
        check.due("bind the oldest", x.bind(7, 0), Check.OK);
        check.dueTerm("the youngest", x, 3, Check.INT, -32768, 0, 1);
    }

    private static void creationsUseTheirCells() {
        check.sentence("Creating a variable uses 1 cell; creating a structure of arity `n` uses "
            + "`1+n` cells; constants use none.");
        LogicHeapCollector x = new LogicHeapCollector(4, 64);
        int[] want = {1, 2, 4, 7, 11, 16, 16, 16};
        Call[] calls = {Call.newVar(0), Call.newVar(1), Call.build(2, 1, 1, 0),
            Call.build(2, 1, 2, 0), Call.build(2, 1, 3, 0), Call.build(2, 1, 4, 0),
            Call.setConst(3, Check.ATOM, 4095), Call.setConst(3, Check.INT, -32768)};
        for (int i = 0; i < calls.length; i++) {
            check.due(calls[i].text(), calls[i].on(x), true);
            check.due("used() after " + calls[i].text(), x.used(), want[i]);
        }
    }

    private static void creationsPastTheBudgetAreRefused() {
        check.sentence("A creation that would make `used()` exceed the budget `B` is refused.");
        for (int room = 0; room <= 5; room++) {
            int left = room;
            Scene scene = new Scene("room for " + room, 4, () -> {
                LogicHeapCollector x = new LogicHeapCollector(4, 16);
                for (int made = 0; made < 16 - left; made++) {
                    x.newVar(made % 4);
                }
                return x;
            });
            List<Call> calls = List.of(Call.newVar(2), Call.build(2, 3, 1, 0),
                Call.build(2, 3, 2, 0), Call.build(2, 3, 3, 0), Call.build(2, 3, 4, 0));
            for (int i = 0; i < calls.size(); i++) {
                if (i + 1 <= room) {
                    check.setsRoot(scene, calls.get(i), 2, i + 1);
                } else {
                    check.refuses(scene, calls.get(i));
                }
            }
        }
    }

    private static void severalBadArgumentsAreRefused() {
        check.sentence("they are examined in the order listed, and the first one that fails "
            + "refuses the call");
        for (Scene scene : Scene.all()) {
            for (int bad : new int[] {MIN, -1, 4096, 65536, MAX}) {
                List<Call> calls = List.of(Call.setConst(bad, bad, bad),
                    Call.setConst(bad, Check.ATOM, bad), Call.setConst(0, bad, bad),
                    Call.setConst(bad, bad, 0), Call.build(bad, bad, bad, bad),
                    Call.build(0, bad, bad, bad), Call.build(0, 0, bad, bad),
                    Call.build(bad, 0, 1, bad), Call.build(bad, bad, 1, 0), Call.move(bad, bad),
                    Call.getArg(bad, bad, bad), Call.getArg(0, bad, bad), Call.getArg(bad, 0, bad),
                    Call.bind(bad, bad));
                for (Call call : calls) {
                    check.refuses(scene, call);
                }
            }
        }
    }

    private static void refusedCallsChangeNothing() {
        check.sentence("A refused call changes nothing at all (no root, no variable, no binding, "
            + "no choice point, not `used()`). It answers `false` for a boolean answer and "
            + "`BIND_REFUSED` for `bind`");
        for (Scene scene : Scene.all()) {
            int past = scene.roots;
            List<Call> calls = List.of(Call.setConst(past, Check.ATOM, 1),
                Call.setConst(1, Check.STRUCT, 1), Call.setConst(1, Check.ATOM, 4096),
                Call.setConst(1, Check.INT, 32768), Call.newVar(past), Call.build(past, 1, 1, 0),
                Call.build(1, 4096, 1, 0), Call.build(1, 1, 0, 0), Call.build(1, 1, 1, past),
                Call.move(past, 1), Call.move(1, past), Call.getArg(past, 1, 1),
                Call.getArg(1, past, 1), Call.getArg(1, 1, 5), Call.bind(past, 1),
                Call.bind(1, past));
            for (Call call : calls) {
                check.refuses(scene, call);
            }
        }
        check.refuses(Scene.mixed(), Call.getArg(1, 0, 1));
        check.refuses(Scene.mixed(), Call.bind(4, 0));
        check.refuses(Scene.fullBudget(), Call.newVar(1));
        check.refuses(Scene.fullBudget(), Call.build(1, 1, 1, 0));
        check.refuses(Scene.fullStack(), Call.pushChoice());
        check.refuses(Scene.fresh(), Call.backtrack());
        check.refuses(Scene.fresh(), Call.popChoice());
    }

    private static void gettersAnswerForNoRoot() {
        check.sentence("getters state their own answer");
        for (Scene scene : Scene.all()) {
            int past = scene.roots;
            check.keeps(scene, Call.kind(past), Check.NONE);
            check.keeps(scene, Call.value(past), 0);
            check.keeps(scene, Call.arity(past), 0);
            check.keeps(scene, Call.sameVar(past, past), false);
            check.keeps(scene, Call.treeSize(past), 0);
        }
    }

    /** Calls on the mixed scene, whose root 3 is a structure of arity 2. */
    private static List<Shape> shapes() {
        int[] root = {0, 6};
        int[] name = {0, 4095};
        int[] kind = {2, 3};
        return List.of(
            new Shape(new int[] {1, Check.ATOM, 5}, new int[][] {root, kind, name}, false,
                a -> Call.setConst(a[0], a[1], a[2])),
            new Shape(new int[] {1, Check.INT, -5}, new int[][] {root, kind, {-32768, 32767}},
                false, a -> Call.setConst(a[0], a[1], a[2])),
            new Shape(new int[] {1}, new int[][] {root}, false, a -> Call.newVar(a[0])),
            new Shape(new int[] {1, 5, 2, 4}, new int[][] {root, name, {1, 4}, {0, 5}}, false,
                a -> Call.build(a[0], a[1], a[2], a[3])),
            new Shape(new int[] {1, 5, 4, 3}, new int[][] {root, name, {1, 4}, {0, 3}}, false,
                a -> Call.build(a[0], a[1], a[2], a[3])),
            new Shape(new int[] {1, 5}, new int[][] {root, root}, false,
                a -> Call.move(a[0], a[1])),
            new Shape(new int[] {1, 3, 2}, new int[][] {root, root, {1, 2}}, false,
                a -> Call.getArg(a[0], a[1], a[2])),
            new Shape(new int[] {0, 5}, new int[][] {root, root}, Check.REFUSED,
                a -> Call.bind(a[0], a[1])),
            new Shape(new int[] {3}, new int[][] {root}, Check.NONE, a -> Call.kind(a[0])),
            new Shape(new int[] {3}, new int[][] {root}, 0, a -> Call.value(a[0])),
            new Shape(new int[] {3}, new int[][] {root}, 0, a -> Call.arity(a[0])),
            new Shape(new int[] {5, 6}, new int[][] {root, root}, false,
                a -> Call.sameVar(a[0], a[1])),
            new Shape(new int[] {3}, new int[][] {root}, 0, a -> Call.treeSize(a[0])));
    }

    private static void extremesAreOutsideEveryRange() {
        check.sentence("any argument value, including `Integer.MIN_VALUE` and `Integer.MAX_VALUE`, "
            + "is simply inside or outside its range");
        for (Shape shape : shapes()) {
            for (int place = 0; place < shape.good().length; place++) {
                for (int extreme : new int[] {MIN, MIN + 1, MAX - 1, MAX}) {
                    check.keeps(Scene.mixed(), callWith(shape, place, extreme), shape.refusal());
                }
            }
            Call good = shape.call().apply(shape.good());
            check.due(good.text() + " is taken",
                good.on(Scene.mixed().make()).equals(shape.refusal()), false);
        }
    }

    private static void wrapAroundLetsNothingPass() {
        check.sentence("int wrap-around never lets an out-of-range argument pass");
        for (Shape shape : shapes()) {
            for (int place = 0; place < shape.good().length; place++) {
                int[] range = shape.ranges()[place];
                for (int number : wrapped(range)) {
                    if (number < range[0] || number > range[1]) {
                        answersAsRefused(callWith(shape, place, number), shape.refusal());
                    }
                }
            }
        }
    }

    /** The range's bounds and their neighbours, moved by every power of two. */
    private static List<Integer> wrapped(int[] range) {
        List<Integer> numbers = new ArrayList<>();
        for (int bound : range) {
            for (int near = -1; near <= 1; near++) {
                numbers.add(bound + near);
                for (int power = 0; power < 32; power++) {
                    numbers.add(bound + near + (1 << power));
                    numbers.add(bound + near - (1 << power));
                    numbers.add(-(bound + near) + (1 << power));
                }
            }
        }
        return numbers;
    }

    private static Call callWith(Shape shape, int place, int number) {
        int[] arguments = shape.good().clone();
        arguments[place] = number;
        return shape.call().apply(arguments);
    }

    private static void answersAsRefused(Call call, Object refusal) {
        LogicHeapCollector x = Scene.mixed().make();
        String before = Check.state(x);
        check.due(call.text(), call.on(x), refusal);
        check.dueUnchanged(call.text(), x, before);
        x.backtrack();
        check.dueUnchanged(call.text() + " and backtrack()", x,
            Check.state(Scene.mixed().after(Call.backtrack()).make()));
    }
}
