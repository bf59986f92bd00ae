import java.util.ArrayList;
import java.util.List;

/** Promise 10, sentence by sentence. */
final class PopChoiceEdgeTest {
    private static final Check check = new Check();

    public static void main(String[] args) {
        refusesWithoutChoicePoint();
        emptiesAFullStack();
        theOneBelowBecomesTheTop();
        keepsTheTermState();
        removedSnapshotsStayRemoved();
        olderSnapshotDiscardsAllSince();
        check.finish();
    }

    private static void refusesWithoutChoicePoint() {
        check.sentence("With no choice point the call is refused.");
        check.refuses(Scene.fresh(), Call.popChoice());
        check.refuses(Scene.fresh().after(Call.popChoice()), Call.popChoice());
        for (Scene scene : List.of(Scene.mixed(), Scene.fullBudget(), Scene.fullStack())) {
            Scene popped = scene;
            for (int left = scene.levels().size() - 1; left >= 1; left--) {
                popped = popped.after(Call.popChoice());
            }
            check.refuses(popped, Call.popChoice());
            check.refuses(popped.after(Call.popChoice()), Call.popChoice());
        }
    }

    private static void emptiesAFullStack() {
        check.sentence("(1) at least one choice point exists");
        for (int choices = 0; choices <= 8; choices++) {
            LogicHeapCollector x = new LogicHeapCollector(2, 16);
            for (int made = 0; made < choices; made++) {
                x.pushChoice();
            }
            for (int left = choices; left >= 1; left--) {
                check.due("popChoice() with " + left, x.popChoice(), true);
            }
            check.due("popChoice() with none", x.popChoice(), false);
            check.due("backtrack() with none", x.backtrack(), false);
        }
    }

    private static void theOneBelowBecomesTheTop() {
        check.sentence("the top choice point is removed; the one below it (if any) becomes the "
            + "top");
        Scene scene = Scene.fullStack();
        for (int left = 8; left >= 1; left--) {
            Scene popped = scene.after(Call.popChoice());
            check.due(scene.name + ": popChoice()", scene.make().popChoice(), true);
            List<String> want = new ArrayList<>(scene.levels());
            want.remove(1);
            check.dueLevels(popped, want);
            check.due(popped.name + ": choice points that fit", popped.choicesThatFit(),
                scene.choicesThatFit() + 1);
            scene = popped;
        }
    }

    private static void keepsTheTermState() {
        check.sentence("The term state is unchanged: roots, variables, bindings and `used()` stay "
            + "exactly as they are.");
        for (Scene scene : List.of(Scene.mixed(), Scene.fullBudget(), Scene.fullStack())) {
            Scene popped = scene.after(Call.popChoice());
            check.due(popped.name + ": the term state", popped.levels().get(0),
                scene.levels().get(0));
        }
    }

    private static void removedSnapshotsStayRemoved() {
        check.sentence("No later backtrack can return to the removed snapshot");
        LogicHeapCollector x = new LogicHeapCollector(2, 16);
        x.setConst(0, Check.INT, 1);
        x.pushChoice();
        x.setConst(0, Check.INT, 2);
        x.pushChoice();
        x.setConst(0, Check.INT, 3);
        x.popChoice();
        check.due("backtrack() to the older", x.backtrack(), true);
        check.due("value(0)", x.value(0), 1);
        x.setConst(0, Check.INT, 4);
        x.popChoice();
        check.due("backtrack() to none", x.backtrack(), false);
        check.due("value(0)", x.value(0), 4);
        x.pushChoice();
        x.setConst(0, Check.INT, 5);
        check.due("backtrack() to a new one", x.backtrack(), true);
        check.due("value(0)", x.value(0), 4);
    }

    private static void olderSnapshotDiscardsAllSince() {
        check.sentence("if an older choice point remains, a later backtrack to it still discards "
            + "everything created since that older snapshot, including these creations");
        for (int extra = 1; extra <= 7; extra++) {
            Scene then = Scene.fresh().after(Call.newVar(0), Call.pushChoice());
            Scene now = then;
            for (int made = 0; made < extra; made++) {
                now = now.after(Call.newVar(1), Call.bind(1, 0), Call.pushChoice());
            }
            now = now.after(Call.setConst(1, Check.INT, 6), Call.bind(0, 1), Call.newVar(1));
            for (int made = 0; made < extra; made++) {
                now = now.after(Call.popChoice());
            }
            check.due("used() before", now.make().used(), 2 + extra);
            check.due("value(0) before", now.make().value(0), 6);
            check.dueLevels(now.after(Call.backtrack()), then.levels());
        }
    }
}
