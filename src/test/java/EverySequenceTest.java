import java.util.List;
import java.util.function.Function;

/**
 * Every promise over every short sequence of calls: from a few starts, each sequence that can be
 * made of the calls below gives the model's answers and leaves what the model shows.
 */
final class EverySequenceTest {
    private static final int LENGTH = 4;
    private static final int ROOTS = 2;
    private static final Check check = new Check();

    /** One call on the class and on the model. */
    private record Step(Call call, Function<Model, Object> onModel) { }

    private static final List<Step> STEPS = List.of(
        new Step(Call.setConst(0, Check.INT, -3), m -> m.setConst(0, Check.INT, -3)),
        new Step(Call.setConst(1, Check.ATOM, 6), m -> m.setConst(1, Check.ATOM, 6)),
        new Step(Call.newVar(0), m -> m.newVar(0)),
        new Step(Call.newVar(1), m -> m.newVar(1)),
        new Step(Call.build(0, 4, 2, 0), m -> m.build(0, 4, 2, 0)),
        new Step(Call.build(1, 5, 1, 0), m -> m.build(1, 5, 1, 0)),
        new Step(Call.move(0, 1), m -> m.move(0, 1)),
        new Step(Call.move(1, 0), m -> m.move(1, 0)),
        new Step(Call.getArg(0, 0, 2), m -> m.getArg(0, 0, 2)),
        new Step(Call.getArg(1, 0, 1), m -> m.getArg(1, 0, 1)),
        new Step(Call.bind(0, 1), m -> m.bind(0, 1)),
        new Step(Call.bind(1, 0), m -> m.bind(1, 0)),
        new Step(Call.pushChoice(), m -> m.pushChoice()),
        new Step(Call.backtrack(), m -> m.backtrack()),
        new Step(Call.popChoice(), m -> m.popChoice()));

    public static void main(String[] args) {
        everySequenceAfter();
        everySequenceAfter("newVar(0)", "newVar(1)");
        everySequenceAfter("newVar(0)", "newVar(1)", "build(0, 4, 2, 0)", "pushChoice()");
        everySequenceAfter("newVar(0)", "newVar(1)", "bind(0, 1)", "pushChoice()",
            "build(0, 4, 2, 0)");
        everySequenceAfter("newVar(0)", "pushChoice()", "newVar(1)", "pushChoice()", "bind(1, 0)");
        check.finish();
    }

    private static void everySequenceAfter(String... start) {
        Step[] run = new Step[start.length + LENGTH];
        for (int i = 0; i < start.length; i++) {
            run[i] = named(start[i]);
        }
        int sequences = 1;
        for (int i = 0; i < LENGTH; i++) {
            sequences *= STEPS.size();
        }
        for (int number = 0; number < sequences; number++) {
            int digits = number;
            for (int i = start.length; i < run.length; i++) {
                run[i] = STEPS.get(digits % STEPS.size());
                digits /= STEPS.size();
            }
            answersAsTheModel(run);
        }
    }

    private static Step named(String text) {
        return STEPS.stream().filter(step -> step.call().text().equals(text)).findFirst().get();
    }

    private static void answersAsTheModel(Step[] run) {
        LogicHeapCollector x = new LogicHeapCollector(ROOTS, 16);
        Model model = new Model(ROOTS, 16);
        for (Step step : run) {
            if (!step.call().on(x).equals(step.onModel().apply(model))) {
                check.due(text(run) + "an answer of " + step.call().text(), "other", "the model's");
            }
        }
        if (!showsTheSame(x, model)) {
            check.due(text(run) + "the state", Check.state(x), "the model's");
        }
    }

    private static boolean showsTheSame(LogicHeapCollector x, Model model) {
        boolean same = x.used() == model.used();
        for (int r = 0; r < ROOTS; r++) {
            same = same && x.kind(r) == model.kind(r) && x.value(r) == model.value(r)
                && x.arity(r) == model.arity(r) && x.treeSize(r) == model.treeSize(r)
                && x.sameVar(r, 0) == model.sameVar(r, 0);
        }
        return same;
    }

    private static String text(Step[] run) {
        StringBuilder text = new StringBuilder();
        for (Step step : run) {
            text.append(step.call().text()).append(", ");
        }
        return text.toString();
    }
}
