import java.util.ArrayList;
import java.util.List;

/** Promise 8, sentence by sentence. */
final class PushChoiceEdgeTest {
    private static final Check check = new Check();

    public static void main(String[] args) {
        takesEightChoicePoints();
        refusesTheNinth();
        takesOneMoreAfterEachPop();
        savesTheTermState();
        savesAnEmptyAndAFullObject();
        changesNoTermAndNoEarlierSnapshot();
        check.finish();
    }

    private static void takesEightChoicePoints() {
        check.sentence("(1) fewer than `MAX_CHOICES` choice points exist");
        LogicHeapCollector x = new LogicHeapCollector(2, 16);
        for (int made = 1; made <= 8; made++) {
            check.due("pushChoice() as number " + made, x.pushChoice(), true);
        }
        check.due("pushChoice() as number 9", x.pushChoice(), false);
        check.due("on a new object", Scene.fresh().choicesThatFit(), 8);
        check.due("over three", Scene.mixed().choicesThatFit(), 5);
        check.due("over one, with the budget used up", Scene.fullBudget().choicesThatFit(), 7);
        check.due("over eight", Scene.fullStack().choicesThatFit(), 0);
    }

    private static void refusesTheNinth() {
        check.sentence("With `MAX_CHOICES` choice points on the stack the call is refused.");
        check.refuses(Scene.fullStack(), Call.pushChoice());
        check.refuses(Scene.fullStack().after(Call.pushChoice()), Call.pushChoice());
        check.refuses(Scene.fullStack().after(Call.backtrack()), Call.pushChoice());
        check.refuses(Scene.fullStack().after(Call.collect()), Call.pushChoice());
    }

    private static void takesOneMoreAfterEachPop() {
        check.sentence("fewer than `MAX_CHOICES` choice points exist");
        for (int pops = 1; pops <= 8; pops++) {
            Scene scene = Scene.fullStack();
            for (int done = 0; done < pops; done++) {
                scene = scene.after(Call.popChoice());
            }
            check.due(scene.name + ": choice points that fit", scene.choicesThatFit(), pops);
        }
    }

    private static void savesTheTermState() {
        check.sentence("the term held by every root, for every existing variable whether it is "
            + "bound and to what, and `used()`");
        for (Scene scene : List.of(Scene.fresh(), Scene.mixed(), Scene.fullBudget())) {
            Scene pushed = scene.after(Call.pushChoice());
            Call[] changes = {Call.setConst(0, Check.ATOM, 99), Call.newVar(1), Call.bind(1, 0),
                Call.newVar(0), Call.build(1, 9, 2, 0), Call.move(0, 1)};
            Scene back = pushed.after(changes).after(Call.backtrack(), Call.popChoice());
            check.dueLevels(back, scene.levels());
        }
        LogicHeapCollector x = new LogicHeapCollector(8, 64);
        for (int r = 0; r < 8; r++) {
            x.newVar(r);
        }
        x.bind(6, 7);
        x.pushChoice();
        for (int r = 0; r < 8; r++) {
            x.setConst(r, Check.INT, r);
        }
        x.backtrack();
        for (int r = 0; r < 8; r++) {
            check.dueTerm("each of eight roots", x, r, Check.VAR, 0, 0, 1);
            check.due("sameVar(" + r + ", 7)", x.sameVar(r, 7), r >= 6);
        }
    }

    private static void savesAnEmptyAndAFullObject() {
        check.sentence("a snapshot of the current term state");
        for (int budget : new int[] {16, 240}) {
            LogicHeapCollector x = new LogicHeapCollector(8, budget);
            x.pushChoice();
            x.newVar(0);
            for (int made = 1; made < budget; made++) {
                x.newVar(1 + made % 7);
            }
            x.pushChoice();
            x.setConst(0, Check.INT, 1);
            for (int r = 1; r < 8; r++) {
                x.bind(r, 0);
            }
            check.due("backtrack()", x.backtrack(), true);
            check.due("used() at the budget", x.used(), budget);
            for (int r = 0; r < 8; r++) {
                check.due("kind(" + r + ")", x.kind(r), Check.VAR);
            }
            x.popChoice();
            check.due("backtrack()", x.backtrack(), true);
            check.due("used() of nothing", x.used(), 0);
            for (int r = 0; r < 8; r++) {
                check.dueTerm("at the start", x, r, Check.ATOM, 0, 0, 1);
            }
        }
    }

    private static void changesNoTermAndNoEarlierSnapshot() {
        check.sentence("Unchanged: the term state itself, and every earlier choice point.");
        for (Scene scene : List.of(Scene.fresh(), Scene.mixed(), Scene.fullBudget(),
            Scene.fullStack().after(Call.popChoice()))) {
            Scene pushed = scene.after(Call.pushChoice());
            check.due(scene.name + ": pushChoice()", scene.make().pushChoice(), true);
            List<String> want = new ArrayList<>(scene.levels());
            want.add(0, want.get(0));
            check.dueLevels(pushed, want);
            check.due(pushed.name + ": choice points that fit", pushed.choicesThatFit(),
                scene.choicesThatFit() - 1);
        }
    }
}
