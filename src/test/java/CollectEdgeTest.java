import java.util.ArrayList;
import java.util.List;

/** Promise 11, sentence by sentence. */
final class CollectEdgeTest {
    private static final Check check = new Check();

    public static void main(String[] args) {
        changesNothing();
        keepsTheNumberOfCells();
        changesNoLaterAnswer();
        changesNoAnswerAfterOtherCalls();
        anyNumberOfCalls();
        keepsWhatOnlySnapshotsReach();
        keepsWhatOnlyArgumentsReach();
        check.finish();
    }

    private static List<Scene> scenes() {
        List<Scene> scenes = new ArrayList<>();
        for (Scene scene : Scene.all()) {
            scenes.add(scene);
            scenes.add(scene.after(Call.backtrack()));
            scenes.add(scene.after(Call.popChoice()));
            scenes.add(scene.after(Call.setConst(0, Check.INT, 1), Call.setConst(1, Check.INT, 1)));
        }
        return scenes;
    }

    private static void changesNothing() {
        check.sentence("it does not change `used()`, the term state, or the choice points");
        for (Scene scene : scenes()) {
            check.keeps(scene, Call.collect(), "done");
        }
    }

    private static void keepsTheNumberOfCells() {
        check.sentence("It is never refused and has no answer.");
        for (int budget : new int[] {16, 240}) {
            LogicHeapCollector x = new LogicHeapCollector(2, budget);
            x.collect();
            for (int made = 1; made <= budget; made++) {
                check.due("newVar(0) as number " + made, x.newVar(0), true);
                x.collect();
                check.due("used()", x.used(), made);
            }
            check.due("newVar(0) past the budget", x.newVar(0), false);
            check.due("build past the budget", x.build(0, 1, 1, 0), false);
        }
    }

    private static void changesNoLaterAnswer() {
        check.sentence("a fresh object running `P`, then `collect()`, then `Q`, and a fresh object "
            + "built with the same arguments running `P`, then `Q`, give the same answer to every "
            + "call of `Q`");
        for (Scene scene : scenes()) {
            for (Call call : everyKindOfCall(scene.roots)) {
                Scene collected = scene.after(Call.collect());
                check.due(collected.name + ": " + call.text(), call.on(collected.make()),
                    call.on(scene.make()));
                check.dueLevels(collected.after(call, Call.collect()), scene.after(call).levels());
            }
        }
    }

    private static void changesNoAnswerAfterOtherCalls() {
        check.sentence("including refusals, and after any later bindings, `pushChoice`, "
            + "`popChoice` and `backtrack` calls");
        for (Scene scene : scenes()) {
            List<Call> calls = everyKindOfCall(scene.roots);
            for (Call first : calls) {
                for (Call second : calls) {
                    sameAnswers(scene, first, second, Call.backtrack());
                    sameAnswers(scene, Call.pushChoice(), first, second);
                }
            }
        }
    }

    private static void sameAnswers(Scene scene, Call... run) {
        LogicHeapCollector plain = scene.make();
        LogicHeapCollector x = scene.make();
        x.collect();
        for (Call call : run) {
            check.dueFast(scene.name, call.on(x), call.on(plain), call.text());
        }
        check.dueFast(scene.name, Check.state(x), Check.state(plain), "the state");
    }

    private static List<Call> everyKindOfCall(int roots) {
        List<Call> calls = new ArrayList<>(List.of(Call.setConst(0, Check.ATOM, 7),
            Call.setConst(0, Check.ATOM, -1), Call.newVar(1), Call.newVar(roots),
            Call.build(0, 1, 1, 0), Call.build(0, 1, 2, 0), Call.build(0, 1, 0, 0),
            Call.move(0, 1), Call.move(1, roots), Call.pushChoice(), Call.backtrack(),
            Call.popChoice(), Call.used()));
        for (int r = 0; r < roots; r++) {
            calls.addAll(List.of(Call.kind(r), Call.value(r), Call.arity(r), Call.treeSize(r),
                Call.sameVar(r, 0), Call.getArg(0, r, 1), Call.bind(r, 0), Call.bind(0, r)));
        }
        return calls;
    }

    private static void anyNumberOfCalls() {
        check.sentence("Hence any number of `collect` calls may be inserted anywhere or removed "
            + "without changing any other answer.");
        Call[] run = {Call.newVar(0), Call.newVar(1), Call.build(2, 3, 2, 0), Call.pushChoice(),
            Call.bind(1, 0), Call.setConst(1, Check.INT, -5), Call.build(1, 4, 2, 1),
            Call.pushChoice(), Call.bind(0, 1), Call.newVar(2), Call.bind(0, 2), Call.move(1, 2),
            Call.backtrack(), Call.getArg(2, 2, 1), Call.popChoice(), Call.newVar(1),
            Call.bind(1, 2), Call.backtrack(), Call.popChoice(), Call.popChoice(),
            Call.build(0, 6, 3, 0), Call.build(0, 6, 3, 0), Call.build(0, 6, 3, 0), Call.newVar(0)};
        Scene start = new Scene("a new object", 3, () -> new LogicHeapCollector(3, 16));
        List<String> want = start.after(run).levels();
        for (int times : new int[] {1, 2, 50}) {
            for (int place = 0; place <= run.length; place++) {
                collectedAt(start, run, place, times, want);
            }
        }
    }

    private static void collectedAt(Scene start, Call[] run, int place, int times,
            List<String> want) {
        LogicHeapCollector plain = start.make();
        LogicHeapCollector x = start.make();
        List<Call> calls = new ArrayList<>();
        for (int i = 0; i <= run.length; i++) {
            for (int done = 0; done < times && i == place; done++) {
                x.collect();
                calls.add(Call.collect());
            }
            if (i < run.length) {
                check.due("collect() before call " + place + ", then " + run[i].text(),
                    run[i].on(x), run[i].on(plain));
                calls.add(run[i]);
            }
        }
        check.dueLevels(start.after(calls.toArray(new Call[0])), want);
    }

    private static void keepsWhatOnlySnapshotsReach() {
        check.sentence("terms that no root, no snapshot and no possible future backtracking can "
            + "reach");
        Scene scene = Scene.fullStack();
        for (int r = 0; r < scene.roots; r++) {
            scene = scene.after(Call.setConst(r, Check.ATOM, 1));
        }
        check.keeps(scene, Call.collect(), "done");
        Scene refilled = scene.after(Call.newVar(0), Call.build(1, 5, 4, 0));
        Scene collected = scene.after(Call.collect(), Call.newVar(0), Call.build(1, 5, 4, 0),
            Call.collect());
        check.dueLevels(collected, refilled.levels());
    }

    private static void keepsWhatOnlyArgumentsReach() {
        check.sentence("reclaims the storage of terms that no root, no snapshot");
        LogicHeapCollector x = new LogicHeapCollector(2, 240);
        x.newVar(0);
        x.newVar(1);
        for (int level = 1; level <= 119; level++) {
            x.build(0, level, 1, 0);
            x.collect();
        }
        for (int level = 119; level >= 1; level--) {
            check.due("value(0)", x.value(0), level);
            x.getArg(0, 0, 1);
            x.collect();
        }
        check.due("kind(0)", x.kind(0), Check.VAR);
        check.due("sameVar(0, 1)", x.sameVar(0, 1), false);
        check.due("bind(0, 1)", x.bind(0, 1), Check.OK);
        x.collect();
        check.due("sameVar(0, 1)", x.sameVar(0, 1), true);
    }
}
