import java.math.BigInteger;
import java.util.ArrayList;
import java.util.Arrays;
import java.util.List;

/** Collects the calls whose answers are not the ones that are due. */
final class Check {
    static final int ATOM = LogicHeapCollector.KIND_ATOM;
    static final int INT = LogicHeapCollector.KIND_INT;
    static final int VAR = LogicHeapCollector.KIND_VAR;
    static final int STRUCT = LogicHeapCollector.KIND_STRUCT;
    static final int NONE = LogicHeapCollector.KIND_NONE;
    static final int OK = LogicHeapCollector.BIND_OK;
    static final int FAIL = LogicHeapCollector.BIND_FAIL;
    static final int REFUSED = LogicHeapCollector.BIND_REFUSED;

    /** Numbers outside the range of the valid roots of any object. */
    static final int[] NO_ROOTS = {-1, 8, 9, 256, Integer.MIN_VALUE, Integer.MAX_VALUE};

    private static final int MOST_SHOWN = 200;

    private int wrong = 0;
    private String sentence = "";

    /** The sentence of the document that the answers below must keep. */
    void sentence(String words) {
        sentence = words;
    }

    void due(String call, Object got, Object want) {
        if (!got.equals(want)) {
            wrong++;
            if (wrong <= MOST_SHOWN) {
                System.out.println(call + " answered " + got + ", due is " + want + quoted());
            }
        }
    }

    /** As due, for checks by the million: the text is put together only if the answer is wrong. */
    void dueFast(String where, Object got, Object want, String method, int... arguments) {
        if (!got.equals(want)) {
            due(where + ": " + method + Arrays.toString(arguments), got, want);
        }
    }

    private String quoted() {
        return sentence.isEmpty() ? "" : " [" + sentence + "]";
    }

    /** The call is refused, and nothing at all has changed. */
    void refuses(Scene scene, Call call) {
        keeps(scene, call, call.refusal());
    }

    /** The call gives this answer, and nothing at all has changed. */
    void keeps(Scene scene, Call call, Object answer) {
        Scene after = scene.after(call);
        due(scene.name + ": " + call.text(), call.on(scene.make()), answer);
        dueLevels(after, scene.levels());
        due(after.name + ": choice points that fit", after.choicesThatFit(),
            scene.choicesThatFit());
    }

    /** The call is taken; it changes no more than this root, and used() by so many cells. */
    void setsRoot(Scene scene, Call call, int root, int cells) {
        Scene after = scene.after(call);
        due(scene.name + ": " + call.text(), call.on(scene.make()), true);
        due(after.name + ": used()", after.make().used(), scene.make().used() + cells);
        due(after.name + ": the other roots", after.termsWithout(root),
            scene.termsWithout(root));
        dueSnapshots(after, scene.levels());
    }

    /** The term state, then each snapshot, the newest first. */
    void dueLevels(Scene scene, List<String> want) {
        due(scene.name + ": the term state", scene.levels().get(0), want.get(0));
        dueSnapshots(scene, want);
    }

    private void dueSnapshots(Scene scene, List<String> want) {
        List<String> got = scene.levels();
        due(scene.name + ": choice points", got.size() - 1, want.size() - 1);
        for (int level = 1; level < Math.min(got.size(), want.size()); level++) {
            due(scene.name + ": snapshot " + level, got.get(level), want.get(level));
        }
    }

    /** The root's kind, value, arity and tree size, as the four getters answer them. */
    void dueTerm(String what, LogicHeapCollector x, int r, int... want) {
        due(what + ": kind(" + r + ")", x.kind(r), want[0]);
        due(what + ": value(" + r + ")", x.value(r), want[1]);
        due(what + ": arity(" + r + ")", x.arity(r), want[2]);
        due(what + ": treeSize(" + r + ")", x.treeSize(r), want[3]);
    }

    void dueUnchanged(String call, LogicHeapCollector x, String before) {
        due("state after " + call, state(x), before);
    }

    /** Six roots with a term of every kind, unbound variables and a bound one. */
    static LogicHeapCollector mixed() {
        LogicHeapCollector x = new LogicHeapCollector(6, 64);
        x.newVar(0);
        x.newVar(1);
        x.setConst(2, ATOM, 7);
        x.setConst(3, INT, -7);
        x.build(4, 8, 4, 0);
        x.newVar(5);
        x.bind(5, 4);
        return x;
    }

    /** Everything that the getters show. */
    static String state(LogicHeapCollector x) {
        StringBuilder text = new StringBuilder("used " + x.used());
        for (int r = 0; r < LogicHeapCollector.MAX_ROOTS; r++) {
            text.append(" | ").append(x.kind(r)).append(' ').append(x.value(r));
            text.append(' ').append(x.arity(r)).append(' ').append(x.treeSize(r));
            for (int other = 0; other < r; other++) {
                text.append(x.sameVar(r, other) ? " =" + other : "");
            }
        }
        return text.toString();
    }

    static void grow(LogicHeapCollector x, int size) {
        grow(x, BigInteger.valueOf(size));
    }

    /**
     * Root 1 gets a term of just this tree size over the constant or variable in root 0; root 2
     * is lost. A pair of twins takes a size s to 2s + 1, a wrap takes it to s + 1, so the binary
     * digits of size + 1 tell the way.
     */
    static void grow(LogicHeapCollector x, BigInteger size) {
        BigInteger goal = size.add(BigInteger.ONE);
        int digits = goal.bitLength() - 1;
        x.move(1, 0);
        for (int digit = digits - 1; digit >= 0; digit--) {
            if (digit < digits - 1) {
                x.move(2, 1);
                x.build(1, 1, 2, 1);
            }
            if (goal.testBit(digit)) {
                x.build(1, 1, 1, 1);
            }
        }
    }

    /** Tree sizes above int's range, most of which int or long arithmetic takes for small. */
    static List<BigInteger> hugeSizes() {
        BigInteger int31 = BigInteger.TWO.pow(31);
        BigInteger int32 = BigInteger.TWO.pow(32);
        BigInteger long63 = BigInteger.TWO.pow(63);
        BigInteger long64 = BigInteger.TWO.pow(64);
        List<BigInteger> sizes = new ArrayList<>();
        for (int more : new int[] {-1, 0, 1, 2, 999, 1000, 1001}) {
            for (BigInteger edge : List.of(int31, int32, long63, long64)) {
                sizes.add(edge.add(BigInteger.valueOf(more)));
            }
        }
        return sizes;
    }

    /** Numbers that are no root of an object with this many, some of them valid in a few bits. */
    static int[] noRoots(int roots) {
        return new int[] {-1, roots, roots + 1, -roots, 8, 16, 256, 65536, -65536, 1 << 29, 1 << 30,
            Integer.MIN_VALUE, Integer.MIN_VALUE + 1, Integer.MAX_VALUE - 1, Integer.MAX_VALUE};
    }

    boolean allDue() {
        return wrong == 0;
    }

    void finish() {
        if (wrong != 0) {
            System.out.println(wrong + " answers are not as due");
            System.exit(1);
        }
    }
}
