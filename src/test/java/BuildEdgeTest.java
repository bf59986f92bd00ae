/** Promise 4, sentence by sentence. */
final class BuildEdgeTest {
    private static final int MIN = Integer.MIN_VALUE;
    private static final int MAX = Integer.MAX_VALUE;
    private static final Check check = new Check();

    public static void main(String[] args) {
        needsAValidRoot();
        namesKeepToTheirRange();
        aritiesKeepToTheirRange();
        argumentsLieWithinTheRoots();
        moreArgumentsThanRootsAreRefused();
        exactlyTheBudgetIsTaken();
        onePastTheBudgetIsRefused();
        readsTheRootsAtTheStart();
        sharesUnboundVariables();
        sharesBoundVariables();
        usesOneCellMoreThanArguments();
        changesOneRootOnly();
        check.finish();
    }

    private static void needsAValidRoot() {
        check.sentence("(1) `dst` is a valid root");
        for (Scene scene : Scene.all()) {
            for (int dst : Check.noRoots(scene.roots)) {
                check.refuses(scene, Call.build(dst, 1, 1, 0));
            }
        }
        for (int roots = 2; roots <= 8; roots++) {
            taken(roots, 0, 1, 1, 0);
            taken(roots, roots - 1, 1, 1, 0);
        }
    }

    private static void namesKeepToTheirRange() {
        check.sentence("(2) `0 <= f <= MAX_NAME`");
        for (int n = 1; n <= 4; n++) {
            for (int f : new int[] {0, 1, 4094, 4095}) {
                taken(4, 0, f, n, 0);
            }
        }
        for (Scene scene : Scene.all()) {
            for (int f : new int[] {-1, -2, 4096, 4097, 8192, 65536, -65536, 1 << 28, 1 << 29,
                1 << 30, MIN, MIN + 1, MAX - 1, MAX}) {
                check.refuses(scene, Call.build(0, f, 1, 0));
                check.refuses(scene, Call.build(0, f, 2, 0));
            }
        }
    }

    private static void aritiesKeepToTheirRange() {
        check.sentence("`n = 0` or `n > MAX_ARITY` is refused at (3)");
        for (int n = 1; n <= 4; n++) {
            taken(8, 7, 9, n, 8 - n);
        }
        int[] outside = {0, -1, -2, -4, -7, 5, 6, 7, 8, 9, 16, 257, 65537, -65535, 1 << 30, MIN,
            MIN + 1, MIN + 4, MAX - 1, MAX};
        for (Scene scene : Scene.all()) {
            for (int n : outside) {
                check.refuses(scene, Call.build(0, 1, n, 0));
                check.refuses(scene, Call.build(0, 1, n, scene.roots - 1));
            }
        }
        Scene wide = new Scene("eight roots", 8, () -> new LogicHeapCollector(8, 240));
        for (int n : outside) {
            check.refuses(wide, Call.build(0, 1, n, 0));
        }
    }

    private static void argumentsLieWithinTheRoots() {
        check.sentence("(4) `0 <= first` and `first <= R - n`");
        for (int roots = 2; roots <= 8; roots++) {
            int count = roots;
            Scene scene = new Scene(roots + " roots", roots,
                () -> new LogicHeapCollector(count, 16));
            for (int n = 1; n <= 4 && n <= roots; n++) {
                taken(roots, 0, 1, n, 0);
                taken(roots, 0, 1, n, roots - n);
                for (int first : new int[] {-1, -2, -n, roots - n + 1, roots - n + 2, roots, 8, 256,
                    65536, 1 << 30, MIN, MIN + 1, MAX - n, MAX - n + 1, MAX - 1, MAX}) {
                    check.refuses(scene, Call.build(0, 1, n, first));
                }
            }
        }
        for (Scene scene : Scene.all()) {
            for (int first : new int[] {-1, scene.roots, MIN, MAX}) {
                check.refuses(scene, Call.build(0, 1, 1, first));
            }
        }
    }

    private static void moreArgumentsThanRootsAreRefused() {
        check.sentence("when `n > R` no `first` passes (4)");
        for (int roots = 2; roots <= 3; roots++) {
            int count = roots;
            Scene scene = new Scene(roots + " roots", roots,
                () -> new LogicHeapCollector(count, 16));
            for (int n = roots + 1; n <= 4; n++) {
                for (int first : new int[] {roots - n, roots - n + 1, -1, 0, 1, roots - 1, roots,
                    MIN, MIN + n, MAX - n, MAX}) {
                    check.refuses(scene, Call.build(0, 1, n, first));
                }
            }
        }
    }

    private static void taken(int roots, int dst, int f, int n, int first) {
        LogicHeapCollector x = new LogicHeapCollector(roots, 16);
        for (int r = 0; r < roots; r++) {
            x.setConst(r, Check.INT, 100 + r);
        }
        String call = "build(" + dst + ", " + f + ", " + n + ", " + first + ") of " + roots;
        check.due(call, x.build(dst, f, n, first), true);
        check.due(call + ": used()", x.used(), 1 + n);
        check.dueTerm(call, x, dst, Check.STRUCT, f, n, 1 + n);
        int other = dst == 0 ? 1 : 0;
        for (int k = 1; k <= n; k++) {
            check.due(call + ": getArg " + k, x.getArg(other, dst, k), true);
            check.dueTerm(call + ": argument " + k, x, other, Check.INT, 99 + first + k, 0, 1);
        }
    }

    private static void exactlyTheBudgetIsTaken() {
        check.sentence("a call that would bring `used()` exactly to `B` is accepted");
        for (int budget : new int[] {16, 17, 100, 239, 240}) {
            for (int n = 1; n <= 4; n++) {
                LogicHeapCollector x = withRoom(budget, 1 + n);
                check.due("build of arity " + n + " into the last cells", x.build(0, 4095, n, 0),
                    true);
                check.due("used()", x.used(), budget);
                check.dueTerm("the last structure", x, 0, Check.STRUCT, 4095, n, 1 + n);
                check.due("getArg(1, 0, " + n + ")", x.getArg(1, 0, n), true);
                check.dueTerm("its last argument", x, 1, Check.INT, n - 1, 0, 1);
            }
        }
    }

    private static void onePastTheBudgetIsRefused() {
        check.sentence("one past `B` is refused");
        for (int budget : new int[] {16, 17, 100, 239, 240}) {
            for (int n = 1; n <= 4; n++) {
                for (int room = n; room >= 0; room--) {
                    int left = room;
                    Scene scene = new Scene("budget " + budget + " with room " + room, 4,
                        () -> withRoom(budget, left));
                    check.refuses(scene, Call.build(0, 1, n, 0));
                    check.refuses(scene, Call.build(3, 4095, n, 4 - n));
                }
            }
        }
        for (int n = 1; n <= 3; n++) {
            check.refuses(Scene.fullBudget(), Call.build(1, 1, n, 0));
        }
    }

    private static LogicHeapCollector withRoom(int budget, int room) {
        LogicHeapCollector x = new LogicHeapCollector(4, budget);
        for (int made = 0; made < budget - room; made++) {
            x.newVar(0);
        }
        for (int r = 0; r < 4; r++) {
            x.setConst(r, Check.INT, r);
        }
        return x;
    }

    private static void readsTheRootsAtTheStart() {
        check.sentence("`ti` is the term held by root `first+i-1` at the start of the call (`dst` "
            + "may be among these roots)");
        for (int first = 0; first <= 2; first++) {
            for (int n = 1; n <= 4; n++) {
                for (int dst = 0; dst < 6; dst++) {
                    readsAtTheStart(dst, n, first);
                }
            }
        }
    }

    private static void readsAtTheStart(int dst, int n, int first) {
        LogicHeapCollector x = new LogicHeapCollector(6, 32);
        for (int r = 0; r < 6; r++) {
            x.setConst(r, Check.ATOM, 10 + r);
        }
        String call = "build(" + dst + ", 5, " + n + ", " + first + ")";
        check.due(call, x.build(dst, 5, n, first), true);
        check.dueTerm(call, x, dst, Check.STRUCT, 5, n, 1 + n);
        int other = dst == 0 ? 1 : 0;
        for (int k = 1; k <= n; k++) {
            x.getArg(other, dst, k);
            check.dueTerm(call + ": argument " + k, x, other, Check.ATOM, 9 + first + k, 0, 1);
        }
    }

    private static void sharesUnboundVariables() {
        check.sentence("if a root held a variable (bound or not), the argument holds that very "
            + "variable and sees its later bindings");
        for (int place = 0; place < 4; place++) {
            LogicHeapCollector x = new LogicHeapCollector(6, 32);
            x.newVar(place);
            x.move(5, place);
            x.build(4, 5, 4, 0);
            x.getArg(place, 4, place + 1);
            check.due("the argument is the variable", x.sameVar(place, 5), true);
            x.setConst(place, Check.INT, 77);
            check.due("bind(5, " + place + ")", x.bind(5, place), Check.OK);
            x.getArg(0, 4, place + 1);
            check.dueTerm("the argument sees it", x, 0, Check.INT, 77, 0, 1);
        }
    }

    private static void sharesBoundVariables() {
        check.sentence("Each argument holds exactly that term");
        LogicHeapCollector x = new LogicHeapCollector(5, 32);
        x.newVar(0);
        x.newVar(1);
        x.bind(1, 0);
        x.build(2, 5, 1, 1);
        x.getArg(3, 2, 1);
        check.due("the argument follows the bound variable", x.sameVar(3, 0), true);
        x.setConst(4, Check.ATOM, 41);
        x.build(4, 6, 1, 4);
        x.bind(0, 4);
        check.due("treeSize(2)", x.treeSize(2), 3);
        x.getArg(3, 2, 1);
        check.dueTerm("the argument sees the later binding", x, 3, Check.STRUCT, 6, 1, 2);
    }

    private static void usesOneCellMoreThanArguments() {
        check.sentence("Root `dst` then holds the new structure, and `used()` grows by `1+n`.");
        LogicHeapCollector x = new LogicHeapCollector(4, 240);
        int used = 0;
        for (int n = 1; used + 1 + n <= 240; n = n % 4 + 1) {
            check.due("build of arity " + n, x.build(n - 1, used, n, 0), true);
            used += 1 + n;
            check.due("used()", x.used(), used);
            check.due("value(" + (n - 1) + ")", x.value(n - 1), used - 1 - n);
            check.due("arity(" + (n - 1) + ")", x.arity(n - 1), n);
        }
    }

    private static void changesOneRootOnly() {
        check.sentence("Unchanged: every root other than `dst`, every variable and binding, the "
            + "choice points.");
        for (Scene scene : Scene.all()) {
            for (int n = 1; n <= 4 && n <= scene.roots; n++) {
                for (int dst = 0; dst < scene.roots && scene.make().build(0, 1, n, 0); dst++) {
                    check.setsRoot(scene, Call.build(dst, 99, n, scene.roots - n), dst, 1 + n);
                }
            }
        }
    }
}
