import java.util.ArrayList;
import java.util.Arrays;
import java.util.List;
import java.util.function.Supplier;

/**
 * A state of an object, made anew by the same calls for every look at it. A look may therefore
 * walk into arguments, go back through the choice points or fill the budget, and lay open all
 * that a call may have changed: roots, variables, bindings, choice points and used().
 */
final class Scene {
    private static final int DEPTH = 3;
    private static final int NO_ROOT = -1;
    /** More than any object has; a broken class must not keep a look from ending. */
    private static final int MANY_CELLS = 300;
    private static final int MANY_CHOICES = 12;

    final String name;
    final int roots;
    private final Supplier<LogicHeapCollector> maker;
    private List<String> levels;

    Scene(String name, int roots, Supplier<LogicHeapCollector> maker) {
        this.name = name;
        this.roots = roots;
        this.maker = maker;
    }

    LogicHeapCollector make() {
        return maker.get();
    }

    Scene after(Call... calls) {
        StringBuilder text = new StringBuilder(name);
        for (Call call : calls) {
            text.append(", ").append(call.text());
        }
        return new Scene(text.toString(), roots, () -> {
            LogicHeapCollector x = make();
            for (Call call : calls) {
                call.on(x);
            }
            return x;
        });
    }

    /** All that shows: first the term state, then each snapshot, the newest first. */
    List<String> levels() {
        if (levels == null) {
            levels = new ArrayList<>();
            for (int level = 0; level < MANY_CHOICES && at(level) != null; level++) {
                levels.add("used " + at(level).used() + ", " + variablesThatFit(level)
                    + " variables fit" + terms(level, NO_ROOT));
            }
        }
        return levels;
    }

    /** The term state without the root and without used(). */
    String termsWithout(int hidden) {
        return terms(0, hidden);
    }

    int choicesThatFit() {
        LogicHeapCollector x = make();
        int count = 0;
        while (count < MANY_CHOICES && x.pushChoice()) {
            count++;
        }
        return count;
    }

    private int variablesThatFit(int level) {
        LogicHeapCollector x = at(level);
        int count = 0;
        while (count < MANY_CELLS && x.newVar(0)) {
            count++;
        }
        return count;
    }

    /** The object brought back to a snapshot, 1 for the newest; null if there are fewer. */
    private LogicHeapCollector at(int level) {
        LogicHeapCollector x = make();
        for (int down = 1; down <= level; down++) {
            if (down > 1) {
                x.popChoice();
            }
            if (!x.backtrack()) {
                return null;
            }
        }
        return x;
    }

    private String terms(int level, int hidden) {
        StringBuilder text = new StringBuilder();
        for (int r = 0; r < roots; r++) {
            if (r != hidden) {
                appendTerm(text, level, r, hidden);
            }
        }
        return text.toString();
    }

    private void appendTerm(StringBuilder text, int level, int r, int hidden) {
        List<int[]> paths = new ArrayList<>();
        paths.add(new int[0]);
        for (int next = 0; next < paths.size(); next++) {
            int[] path = paths.get(next);
            LogicHeapCollector x = at(level);
            for (int k : path) {
                x.getArg(r, r, k);
            }
            text.append("\n  root ").append(r);
            text.append(path.length == 0 ? "" : " argument " + Arrays.toString(path));
            text.append(": ").append(look(x, r, hidden));
            for (int k = 1; k <= x.arity(r) && path.length < DEPTH; k++) {
                int[] longer = Arrays.copyOf(path, path.length + 1);
                longer[path.length] = k;
                paths.add(longer);
            }
        }
    }

    private String look(LogicHeapCollector x, int r, int hidden) {
        StringBuilder text = new StringBuilder("kind " + x.kind(r) + " value " + x.value(r)
            + " arity " + x.arity(r) + " treeSize " + x.treeSize(r));
        for (int other = 0; other < roots; other++) {
            if (other != hidden && x.sameVar(r, other)) {
                text.append(" same as ").append(other);
            }
        }
        return text.toString();
    }

    /** The scenes in which every refused call must change nothing. */
    static List<Scene> all() {
        return List.of(fresh(), mixed(), fullBudget(), fullStack());
    }

    static Scene fresh() {
        return new Scene("a new object", 2, () -> new LogicHeapCollector(2, 16));
    }

    /**
     * Seven roots: 0 an unbound variable, 1 and 2 a bound one, 3 and 4 structures, 5 and 6 an
     * unbound one. Under it are three choice points, each with other roots and bindings.
     */
    static Scene mixed() {
        return new Scene("a mixed object", 7, () -> {
            LogicHeapCollector x = new LogicHeapCollector(7, 100);
            x.newVar(0);
            x.newVar(1);
            x.setConst(2, Check.ATOM, 7);
            x.setConst(3, Check.INT, -7);
            x.build(4, 8, 4, 0);
            x.newVar(5);
            x.bind(5, 4);
            x.pushChoice();
            x.bind(1, 0);
            x.build(3, 9, 2, 4);
            x.newVar(2);
            x.pushChoice();
            x.setConst(5, Check.ATOM, 3);
            x.bind(0, 5);
            x.newVar(0);
            x.move(1, 2);
            x.pushChoice();
            x.newVar(5);
            x.move(6, 5);
            x.bind(2, 4);
            return x;
        });
    }

    /** Three roots and used() at the budget of 16; the choice point under it has used() 7. */
    static Scene fullBudget() {
        return new Scene("an object at its budget", 3, () -> {
            LogicHeapCollector x = new LogicHeapCollector(3, 16);
            x.newVar(0);
            x.newVar(1);
            x.setConst(2, Check.INT, 5);
            x.build(2, 6, 3, 0);
            x.newVar(1);
            x.pushChoice();
            x.bind(0, 1);
            x.build(0, 4, 2, 1);
            x.build(2, 3, 3, 0);
            x.newVar(1);
            x.newVar(1);
            return x;
        });
    }

    /** Four roots and eight choice points, no two alike. */
    static Scene fullStack() {
        return new Scene("an object with all choice points", 4, () -> {
            LogicHeapCollector x = new LogicHeapCollector(4, 60);
            for (int made = 0; made < 8; made++) {
                x.newVar(made % 3);
                x.build((made + 1) % 4, made, 2, made % 3);
                x.pushChoice();
                x.setConst(3, Check.INT, made);
                x.bind(made % 3, 3);
            }
            x.newVar(2);
            return x;
        });
    }
}
