/**
 * The term store of a small logic machine with choice points, backtracking and collection.
 *
 * A term is one int: its kind in the low bits, its payload above them. The payload is the number
 * of a constant, or the address of the first cell of a variable or structure. A variable is one
 * cell that holds the term it is bound to, or itself while it is unbound. A structure is a header
 * cell (functor name above, arity in the low bits) followed by one cell for each argument.
 *
 * Cells are handed out in the order of creation, so the younger of two variables is the one with
 * the greater address, and backtracking discards creations by lowering the count of used cells.
 */
public final class LogicHeapCollector {
    public static final int KIND_NONE = 0;
    public static final int KIND_VAR = 1;
    public static final int KIND_ATOM = 2;
    public static final int KIND_INT = 3;
    public static final int KIND_STRUCT = 4;
    public static final int MAX_NAME = 4095;
    public static final int MIN_INT = -32768;
    public static final int MAX_INT = 32767;
    public static final int MAX_ARITY = 4;
    public static final int MAX_CHOICES = 8;
    public static final int TREE_LIMIT = 1000;
    public static final int BIND_OK = 1;
    public static final int BIND_FAIL = 0;
    public static final int BIND_REFUSED = -1;
    public static final int MIN_ROOTS = 2;
    public static final int MAX_ROOTS = 8;
    public static final int MIN_BUDGET = 16;
    public static final int MAX_BUDGET = 240;

    private static final int LOW_BITS = 3;
    private static final int LOW_MASK = 7;
    private static final int ALL_SAVED_ROOTS = MAX_CHOICES * MAX_ROOTS;
    private static final int ALL_SAVED_CELLS = MAX_CHOICES * MAX_BUDGET;

    private final int[] rootTerms = new int[MAX_ROOTS];
    private final int[] cells = new int[MAX_BUDGET];
    private final int[] savedRootTerms = new int[ALL_SAVED_ROOTS];
    private final int[] savedCells = new int[ALL_SAVED_CELLS];
    private final int[] savedUsed = new int[MAX_CHOICES];
    private final int[] treeNodes = new int[TREE_LIMIT];

    private final int rootCount;
    private final int cellBudget;
    private int usedCells;
    private int choiceCount;

    public LogicHeapCollector(int roots, int budget) {
        rootCount = clamp(roots, MIN_ROOTS, MAX_ROOTS);
        cellBudget = clamp(budget, MIN_BUDGET, MAX_BUDGET);
        usedCells = 0;
        choiceCount = 0;
        int atomZero = pack(0, KIND_ATOM);
        for (int r = 0; r < MAX_ROOTS; r++) {
            rootTerms[r] = atomZero;
        }
    }

    public boolean setConst(int r, int k, int v) {
        if (!isRoot(r) || !isConstant(k, v)) {
            return false;
        }
        rootTerms[r] = pack(v, k);
        return true;
    }

    public boolean newVar(int r) {
        if (!isRoot(r) || !hasRoomFor(1)) {
            return false;
        }
        int variable = pack(usedCells, KIND_VAR);
        cells[usedCells] = variable;
        usedCells++;
        rootTerms[r] = variable;
        return true;
    }

    public boolean build(int dst, int f, int n, int first) {
        if (!isRoot(dst) || !isWithin(f, 0, MAX_NAME) || !isWithin(n, 1, MAX_ARITY)) {
            return false;
        }
        if (!isWithin(first, 0, rootCount - n) || !hasRoomFor(1 + n)) {
            return false;
        }
        int address = usedCells;
        cells[address] = pack(f, n);
        copy(rootTerms, first, cells, address + 1, n);
        usedCells += 1 + n;
        rootTerms[dst] = pack(address, KIND_STRUCT);
        return true;
    }

    public boolean move(int dst, int src) {
        if (!isRoot(dst) || !isRoot(src)) {
            return false;
        }
        rootTerms[dst] = rootTerms[src];
        return true;
    }

    public boolean getArg(int dst, int src, int k) {
        if (!isRoot(dst) || !isRoot(src)) {
            return false;
        }
        int term = dereference(rootTerms[src]);
        // A term that is no structure has arity 0, so this range refuses it too.
        int count = argumentCount(term);
        if (!isWithin(k, 1, count)) {
            return false;
        }
        int address = highPart(term);
        rootTerms[dst] = cells[address + k];
        return true;
    }

    public int bind(int v, int t) {
        if (!isRoot(v) || !isRoot(t)) {
            return BIND_REFUSED;
        }
        int variable = dereference(rootTerms[v]);
        if (lowPart(variable) != KIND_VAR) {
            return BIND_REFUSED;
        }
        int target = dereference(rootTerms[t]);
        int size = listTree(target);
        if (size > TREE_LIMIT) {
            return BIND_REFUSED;
        }
        if (target == variable) {
            return BIND_OK;
        }
        if (lowPart(target) == KIND_VAR) {
            bindYoungerToOlder(variable, target);
            return BIND_OK;
        }
        if (isListed(variable, size)) {
            return BIND_FAIL;
        }
        cells[highPart(variable)] = target;
        return BIND_OK;
    }

    public boolean pushChoice() {
        if (choiceCount >= MAX_CHOICES) {
            return false;
        }
        copy(rootTerms, 0, savedRootTerms, choiceCount * MAX_ROOTS, rootCount);
        copy(cells, 0, savedCells, choiceCount * MAX_BUDGET, usedCells);
        savedUsed[choiceCount] = usedCells;
        choiceCount++;
        return true;
    }

    public boolean backtrack() {
        if (choiceCount <= 0) {
            return false;
        }
        int top = choiceCount - 1;
        usedCells = savedUsed[top];
        copy(savedRootTerms, top * MAX_ROOTS, rootTerms, 0, rootCount);
        copy(savedCells, top * MAX_BUDGET, cells, 0, usedCells);
        return true;
    }

    public boolean popChoice() {
        if (choiceCount <= 0) {
            return false;
        }
        choiceCount--;
        return true;
    }

    public void collect() {
        // Nothing to do, which the document leaves free: the cells hold the whole budget, and
        // used() does not fall here, so no later creation could ever take a reclaimed cell.
    }

    public int kind(int r) {
        if (!isRoot(r)) {
            return KIND_NONE;
        }
        int term = dereference(rootTerms[r]);
        return lowPart(term);
    }

    public int value(int r) {
        if (!isRoot(r)) {
            return 0;
        }
        int term = dereference(rootTerms[r]);
        int payload = highPart(term);
        switch (lowPart(term)) {
            case KIND_ATOM:
            case KIND_INT:
                return payload;
            case KIND_STRUCT:
                return highPart(cells[payload]);
            default:
                return 0;
        }
    }

    public int arity(int r) {
        if (!isRoot(r)) {
            return 0;
        }
        int term = dereference(rootTerms[r]);
        return argumentCount(term);
    }

    public boolean sameVar(int r1, int r2) {
        if (!isRoot(r1) || !isRoot(r2)) {
            return false;
        }
        int term1 = dereference(rootTerms[r1]);
        int term2 = dereference(rootTerms[r2]);
        return term1 == term2 && lowPart(term1) == KIND_VAR;
    }

    public int treeSize(int r) {
        if (!isRoot(r)) {
            return 0;
        }
        return listTree(rootTerms[r]);
    }

    public int used() {
        return usedCells;
    }

    private static int clamp(int number, int least, int greatest) {
        if (number < least) {
            return least;
        }
        return number > greatest ? greatest : number;
    }

    private static boolean isWithin(int number, int least, int greatest) {
        return least <= number && number <= greatest;
    }

    private static boolean isConstant(int k, int v) {
        if (k == KIND_ATOM) {
            return isWithin(v, 0, MAX_NAME);
        }
        return k == KIND_INT && isWithin(v, MIN_INT, MAX_INT);
    }

    private static int pack(int high, int low) {
        return (high << LOW_BITS) | low;
    }

    // The signed shift brings negative integers back as they were packed.
    private static int highPart(int packed) {
        return packed >> LOW_BITS;
    }

    private static int lowPart(int packed) {
        return packed & LOW_MASK;
    }

    private static void copy(int[] from, int fromStart, int[] to, int toStart, int count) {
        for (int i = 0; i < count; i++) {
            to[toStart + i] = from[fromStart + i];
        }
    }

    private boolean isRoot(int r) {
        return 0 <= r && r < rootCount;
    }

    private boolean hasRoomFor(int count) {
        return usedCells + count <= cellBudget;
    }

    private int argumentCount(int term) {
        if (lowPart(term) != KIND_STRUCT) {
            return 0;
        }
        int header = cells[highPart(term)];
        return lowPart(header);
    }

    // Every step but the last passes another variable, and there are at most MAX_BUDGET of them.
    private int dereference(int term) {
        int current = term;
        for (int step = 0; step < MAX_BUDGET && lowPart(current) == KIND_VAR; step++) {
            int content = cells[highPart(current)];
            if (content == current) {
                break;
            }
            current = content;
        }
        return current;
    }

    private void bindYoungerToOlder(int variable1, int variable2) {
        int address1 = highPart(variable1);
        int address2 = highPart(variable2);
        if (address1 > address2) {
            cells[address1] = variable2;
        } else {
            cells[address2] = variable1;
        }
    }

    /**
     * Fills treeNodes with every dereferenced term of the tree, once for each place where it
     * occurs, and answers their number. It gives up with TREE_LIMIT + 1 before the number passes
     * the limit, so that shared subterms can't make the walk long or the number wrap around.
     */
    private int listTree(int term) {
        treeNodes[0] = term;
        int count = 1;
        for (int next = 0; next < count && next < TREE_LIMIT; next++) {
            int node = dereference(treeNodes[next]);
            treeNodes[next] = node;
            int more = argumentCount(node);
            if (count + more > TREE_LIMIT) {
                return TREE_LIMIT + 1;
            }
            // The payload of a constant is no address, but then there is nothing to copy.
            int address = highPart(node);
            copy(cells, address + 1, treeNodes, count, more);
            count += more;
        }
        return count;
    }

    private boolean isListed(int term, int count) {
        for (int i = 0; i < count; i++) {
            if (treeNodes[i] == term) {
                return true;
            }
        }
        return false;
    }
}
