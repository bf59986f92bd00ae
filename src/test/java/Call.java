import java.util.function.Function;

/** One call with its text, to be made on any number of objects. */
record Call(String text, Function<LogicHeapCollector, Object> run) {
    Object on(LogicHeapCollector x) {
        return run.apply(x);
    }

    /** What the call answers when it is refused. */
    Object refusal() {
        return text.startsWith("bind(") ? (Object) Check.REFUSED : (Object) false;
    }

    static Call setConst(int r, int k, int v) {
        return new Call("setConst(" + r + ", " + k + ", " + v + ")", x -> x.setConst(r, k, v));
    }

    static Call newVar(int r) {
        return new Call("newVar(" + r + ")", x -> x.newVar(r));
    }

    static Call build(int dst, int f, int n, int first) {
        return new Call("build(" + dst + ", " + f + ", " + n + ", " + first + ")",
            x -> x.build(dst, f, n, first));
    }

    static Call move(int dst, int src) {
        return new Call("move(" + dst + ", " + src + ")", x -> x.move(dst, src));
    }

    static Call getArg(int dst, int src, int k) {
        return new Call("getArg(" + dst + ", " + src + ", " + k + ")",
            x -> x.getArg(dst, src, k));
    }

    static Call bind(int v, int t) {
        return new Call("bind(" + v + ", " + t + ")", x -> x.bind(v, t));
    }

    static Call pushChoice() {
        return new Call("pushChoice()", x -> x.pushChoice());
    }

    static Call backtrack() {
        return new Call("backtrack()", x -> x.backtrack());
    }

    static Call popChoice() {
        return new Call("popChoice()", x -> x.popChoice());
    }

    /** It has no answer; this stands in for one. */
    static Call collect() {
        return new Call("collect()", x -> {
            x.collect();
            return "done";
        });
    }

    static Call kind(int r) {
        return new Call("kind(" + r + ")", x -> x.kind(r));
    }

    static Call value(int r) {
        return new Call("value(" + r + ")", x -> x.value(r));
    }

    static Call arity(int r) {
        return new Call("arity(" + r + ")", x -> x.arity(r));
    }

    static Call sameVar(int r1, int r2) {
        return new Call("sameVar(" + r1 + ", " + r2 + ")", x -> x.sameVar(r1, r2));
    }

    static Call treeSize(int r) {
        return new Call("treeSize(" + r + ")", x -> x.treeSize(r));
    }

    static Call used() {
        return new Call("used()", x -> x.used());
    }
}
