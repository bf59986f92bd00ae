import java.math.BigInteger;
import java.util.ArrayList;
import java.util.IdentityHashMap;
import java.util.List;
import java.util.Map;

/**
 * The document's words over plain objects, written apart from the class so that both can be
 * compared: terms are objects, snapshots are copied lists, tree sizes are true numbers.
 */
final class Model {
    private static final class Term {
        final int kind;
        final int value;
        final Term[] args;
        final long birth;
        Term binding;

        Term(int kind, int value, Term[] args, long birth) {
            this.kind = kind;
            this.value = value;
            this.args = args;
            this.birth = birth;
        }
    }

    private record Snapshot(Term[] roots, Map<Term, Term> bindings, int used) { }

    private final int budget;
    private final List<Snapshot> choices = new ArrayList<>();
    private Term[] roots;
    private List<Term> variables = new ArrayList<>();
    private int used = 0;
    private long births = 0;

    Model(int roots, int budget) {
        this.roots = new Term[Math.max(2, Math.min(8, roots))];
        this.budget = Math.max(16, Math.min(240, budget));
        for (int r = 0; r < this.roots.length; r++) {
            this.roots[r] = constant(Check.ATOM, 0);
        }
    }

    private static Term constant(int kind, int value) {
        return new Term(kind, value, new Term[0], 0);
    }

    private boolean bad(int r) {
        return r < 0 || r >= roots.length;
    }

    private static Term dereferenced(Term term) {
        Term found = term;
        while (found.binding != null) {
            found = found.binding;
        }
        return found;
    }

    boolean setConst(int r, int k, int v) {
        boolean atom = k == Check.ATOM && v >= 0 && v <= 4095;
        boolean integer = k == Check.INT && v >= -32768 && v <= 32767;
        if (bad(r) || !(atom || integer)) {
            return false;
        }
        roots[r] = constant(k, v);
        return true;
    }

    boolean newVar(int r) {
        if (bad(r) || used + 1 > budget) {
            return false;
        }
        roots[r] = new Term(Check.VAR, 0, new Term[0], ++births);
        variables.add(roots[r]);
        used++;
        return true;
    }

    boolean build(int dst, int f, int n, int first) {
        if (bad(dst) || f < 0 || f > 4095 || n < 1 || n > 4) {
            return false;
        }
        if (first < 0 || first > roots.length - n || used + 1 + n > budget) {
            return false;
        }
        Term[] args = new Term[n];
        for (int i = 0; i < n; i++) {
            args[i] = roots[first + i];
        }
        roots[dst] = new Term(Check.STRUCT, f, args, ++births);
        used += 1 + n;
        return true;
    }

    boolean move(int dst, int src) {
        if (bad(dst) || bad(src)) {
            return false;
        }
        roots[dst] = roots[src];
        return true;
    }

    boolean getArg(int dst, int src, int k) {
        if (bad(dst) || bad(src)) {
            return false;
        }
        Term term = dereferenced(roots[src]);
        if (term.kind != Check.STRUCT || k < 1 || k > term.args.length) {
            return false;
        }
        roots[dst] = term.args[k - 1];
        return true;
    }

    int bind(int v, int t) {
        if (bad(v) || bad(t)) {
            return Check.REFUSED;
        }
        Term variable = dereferenced(roots[v]);
        Term target = dereferenced(roots[t]);
        if (variable.kind != Check.VAR || limitedSize(target) > 1000) {
            return Check.REFUSED;
        }
        if (target.kind == Check.VAR) {
            if (target.birth > variable.birth) {
                target.binding = variable;
            } else if (target.birth < variable.birth) {
                variable.binding = target;
            }
            return Check.OK;
        }
        if (occurs(variable, target)) {
            return Check.FAIL;
        }
        variable.binding = target;
        return Check.OK;
    }

    private static boolean occurs(Term variable, Term term) {
        Term found = dereferenced(term);
        boolean within = found == variable;
        for (Term arg : found.args) {
            within = within || occurs(variable, arg);
        }
        return within;
    }

    private static int limitedSize(Term term) {
        BigInteger size = trueSize(term, new IdentityHashMap<>());
        return size.min(BigInteger.valueOf(1001)).intValue();
    }

    private static BigInteger trueSize(Term term, Map<Term, BigInteger> known) {
        Term found = dereferenced(term);
        BigInteger size = known.get(found);
        if (size == null) {
            size = BigInteger.ONE;
            for (Term arg : found.args) {
                size = size.add(trueSize(arg, known));
            }
            known.put(found, size);
        }
        return size;
    }

    boolean pushChoice() {
        if (choices.size() >= 8) {
            return false;
        }
        Map<Term, Term> bindings = new IdentityHashMap<>();
        for (Term variable : variables) {
            bindings.put(variable, variable.binding);
        }
        choices.add(new Snapshot(roots.clone(), bindings, used));
        return true;
    }

    boolean backtrack() {
        if (choices.isEmpty()) {
            return false;
        }
        Snapshot top = choices.get(choices.size() - 1);
        roots = top.roots().clone();
        variables = new ArrayList<>(top.bindings().keySet());
        for (Term variable : variables) {
            variable.binding = top.bindings().get(variable);
        }
        used = top.used();
        return true;
    }

    boolean popChoice() {
        if (choices.isEmpty()) {
            return false;
        }
        choices.remove(choices.size() - 1);
        return true;
    }

    int kind(int r) {
        return bad(r) ? Check.NONE : dereferenced(roots[r]).kind;
    }

    int value(int r) {
        return bad(r) ? 0 : dereferenced(roots[r]).value;
    }

    int arity(int r) {
        return bad(r) ? 0 : dereferenced(roots[r]).args.length;
    }

    boolean sameVar(int r1, int r2) {
        if (bad(r1) || bad(r2)) {
            return false;
        }
        Term term = dereferenced(roots[r1]);
        return term.kind == Check.VAR && term == dereferenced(roots[r2]);
    }

    int treeSize(int r) {
        return bad(r) ? 0 : limitedSize(roots[r]);
    }

    int used() {
        return used;
    }
}
