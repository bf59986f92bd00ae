import com.sun.source.tree.ArrayTypeTree;
import com.sun.source.tree.AssignmentTree;
import com.sun.source.tree.ClassTree;
import com.sun.source.tree.CompilationUnitTree;
import com.sun.source.tree.ExpressionTree;
import com.sun.source.tree.IdentifierTree;
import com.sun.source.tree.LiteralTree;
import com.sun.source.tree.MemberSelectTree;
import com.sun.source.tree.MethodInvocationTree;
import com.sun.source.tree.MethodTree;
import com.sun.source.tree.NewArrayTree;
import com.sun.source.tree.PrimitiveTypeTree;
import com.sun.source.tree.Tree;
import com.sun.source.tree.Tree.Kind;
import com.sun.source.tree.TypeCastTree;
import com.sun.source.tree.VariableTree;
import com.sun.source.util.JavacTask;
import com.sun.source.util.TreePath;
import com.sun.source.util.TreePathScanner;
import com.sun.source.util.TreeScanner;
import com.sun.source.util.Trees;
import java.io.IOException;
import java.nio.file.Path;
import java.util.EnumSet;
import java.util.Map;
import java.util.Set;
import java.util.TreeMap;
import java.util.TreeSet;
import javax.lang.model.element.Modifier;
import javax.lang.model.type.TypeKind;
import javax.tools.JavaCompiler;
import javax.tools.StandardJavaFileManager;
import javax.tools.ToolProvider;

/** The rules of LANGUAGE.md that the text of the class can show, by their numbers. */
final class LanguageTest extends TreePathScanner<Void, Void> {
    private static final Path SOURCE = Path.of("src/main/java/LogicHeapCollector.java");
    private static final Set<TypeKind> NUMBERS = EnumSet.of(TypeKind.INT, TypeKind.LONG,
        TypeKind.SHORT, TypeKind.BYTE, TypeKind.CHAR, TypeKind.BOOLEAN);
    private static final Set<Kind> FORBIDDEN = EnumSet.of(Kind.THROW, Kind.TRY, Kind.SYNCHRONIZED,
        Kind.ASSERT, Kind.INSTANCE_OF, Kind.LAMBDA_EXPRESSION, Kind.MEMBER_REFERENCE,
        Kind.NEW_CLASS, Kind.ENHANCED_FOR_LOOP, Kind.PARAMETERIZED_TYPE, Kind.ANNOTATION,
        Kind.STRING_LITERAL, Kind.NULL_LITERAL, Kind.FLOAT_LITERAL, Kind.DOUBLE_LITERAL);
    /** Stands for the method where a call has none around it. */
    private static final String FIELDS = "the fields";
    private static final int MOST_LINES = 60;
    private static final int MOST_PARAMETERS = 7;
    private static final int MOST_FIELDS = 40;
    private static final int MOST_CALLS_DEEP = 6;

    private static final Check check = new Check();

    private final Map<String, Set<String>> calls = new TreeMap<>();
    private final Set<String> constants = new TreeSet<>();
    private final Set<String> arrayFields = new TreeSet<>();
    private final Set<String> publicMethods = new TreeSet<>();
    private final Set<String> privateMethods = new TreeSet<>();
    private final Trees trees;
    private final CompilationUnitTree unit;
    private int fields = 0;

    private LanguageTest(Trees trees, CompilationUnitTree unit) {
        this.trees = trees;
        this.unit = unit;
    }

    public static void main(String[] args) throws IOException {
        JavaCompiler compiler = ToolProvider.getSystemJavaCompiler();
        try (StandardJavaFileManager files = compiler.getStandardFileManager(null, null, null)) {
            JavacTask task = (JavacTask) compiler.getTask(null, files, null, null, null,
                files.getJavaFileObjects(SOURCE));
            for (CompilationUnitTree unit : task.parse()) {
                new LanguageTest(Trees.instance(task), unit).keepsTheRules();
            }
        }
        check.finish();
    }

    private void keepsTheRules() {
        broken(unit.getPackageName() != null, "1", "a package line");
        broken(unit.getTypeDecls().size() != 1, "1", "more than one class");
        broken(!unit.getImports().isEmpty(), "3", "an import");
        ClassTree type = (ClassTree) unit.getTypeDecls().get(0);
        calls.put(FIELDS, new TreeSet<>());
        for (Tree member : type.getMembers()) {
            if (member instanceof VariableTree field) {
                lookAtField(field);
            } else {
                broken(!(member instanceof MethodTree), "1 and 5", member.getKind().toString());
            }
        }
        scan(unit, null);
        broken(fields > MOST_FIELDS, "10", fields + " fields");
        privateMethods.retainAll(publicMethods);
        broken(!privateMethods.isEmpty(), "1", "a name both private and public");
        for (String method : calls.keySet()) {
            broken(!calls.keySet().containsAll(calls.get(method)), "3", method + "'s calls");
            int depth = depthOf(method, 1);
            broken(depth > MOST_CALLS_DEEP, "8 and 10", method + " calls too deep or itself");
        }
    }

    private static void broken(boolean isBroken, String rule, String what) {
        check.due("rule " + rule + " of LANGUAGE.md broken by " + what, isBroken, false);
    }

    private void lookAtField(VariableTree field) {
        Set<Modifier> flags = field.getModifiers().getFlags();
        String name = field.getName().toString();
        String type = field.getType().toString();
        if (flags.contains(Modifier.STATIC)) {
            boolean isNumber = type.equals("int") || type.equals("long");
            broken(!isNumber || !flags.contains(Modifier.FINAL), "5", "static " + name);
            constants.add(name);
        } else {
            fields++;
        }
        if (field.getType() instanceof ArrayTypeTree) {
            arrayFields.add(name);
        }
    }

    /** The deepest chain of calls that starts with this method; too deep is deep enough to end. */
    private int depthOf(String method, int depth) {
        int deepest = depth;
        for (String next : calls.getOrDefault(method, Set.of())) {
            if (depth <= MOST_CALLS_DEEP) {
                deepest = Math.max(deepest, depthOf(next, depth + 1));
            }
        }
        return deepest;
    }

    @Override
    public Void scan(Tree tree, Void none) {
        if (tree != null) {
            broken(FORBIDDEN.contains(tree.getKind()), "2, 3 or 6", "'" + tree + "'");
        }
        return super.scan(tree, none);
    }

    @Override
    public Void visitClass(ClassTree type, Void none) {
        broken(!(getCurrentPath().getParentPath().getLeaf() instanceof CompilationUnitTree), "1",
            "a class within");
        return super.visitClass(type, none);
    }

    @Override
    public Void visitMethod(MethodTree method, Void none) {
        String name = method.getName().toString();
        boolean isPublic = method.getModifiers().getFlags().contains(Modifier.PUBLIC);
        (isPublic ? publicMethods : privateMethods).add(name);
        calls.putIfAbsent(name, new TreeSet<>());
        broken(method.getReturnType() instanceof ArrayTypeTree, "4", name + " answers an array");
        broken(method.getParameters().size() > MOST_PARAMETERS, "10", name + "'s parameters");
        broken(lines(method) > MOST_LINES, "10", name + " of " + lines(method) + " lines");
        return super.visitMethod(method, none);
    }

    private long lines(Tree tree) {
        long start = trees.getSourcePositions().getStartPosition(unit, tree);
        long end = trees.getSourcePositions().getEndPosition(unit, tree);
        return unit.getLineMap().getLineNumber(end) - unit.getLineMap().getLineNumber(start) + 1;
    }

    @Override
    public Void visitVariable(VariableTree variable, Void none) {
        Tree type = variable.getType();
        if (type instanceof ArrayTypeTree array) {
            type = array.getType();
        }
        broken(!(type instanceof PrimitiveTypeTree), "2", variable.toString());
        return super.visitVariable(variable, none);
    }

    @Override
    public Void visitPrimitiveType(PrimitiveTypeTree type, Void none) {
        boolean isVoid = type.getPrimitiveTypeKind() == TypeKind.VOID;
        broken(!isVoid && !NUMBERS.contains(type.getPrimitiveTypeKind()), "2", type.toString());
        return super.visitPrimitiveType(type, none);
    }

    @Override
    public Void visitTypeCast(TypeCastTree cast, Void none) {
        broken(!(cast.getType() instanceof PrimitiveTypeTree), "6", cast.toString());
        return super.visitTypeCast(cast, none);
    }

    /** No library and no object of another class: all that may follow a dot is an own member. */
    @Override
    public Void visitMemberSelect(MemberSelectTree select, Void none) {
        boolean isOwn = select.getExpression().toString().equals("this");
        boolean isLength = select.getIdentifier().contentEquals("length");
        broken(!isOwn && !isLength, "3", select.toString());
        return super.visitMemberSelect(select, none);
    }

    @Override
    public Void visitNewArray(NewArrayTree array, Void none) {
        TreePath path = getCurrentPath();
        Tree holder = path.getParentPath().getLeaf();
        Tree above = path.getParentPath().getParentPath().getLeaf();
        broken(!(holder instanceof VariableTree && above instanceof ClassTree), "4",
            array + " outside a field's initialiser");
        broken(array.getInitializers() != null || array.getDimensions().size() != 1, "4",
            array.toString());
        for (ExpressionTree length : array.getDimensions()) {
            boolean isLiteral = length instanceof LiteralTree;
            broken(!isLiteral && !constants.contains(length.toString()), "4", array.toString());
        }
        return super.visitNewArray(array, none);
    }

    @Override
    public Void visitAssignment(AssignmentTree assignment, Void none) {
        String target = assignment.getVariable().toString().replace("this.", "");
        broken(arrayFields.contains(target), "4", assignment.toString());
        return super.visitAssignment(assignment, none);
    }

    @Override
    public Void visitMethodInvocation(MethodInvocationTree call, Void none) {
        calls.get(enclosingMethod()).add(call.getMethodSelect().toString());
        broken(!(call.getMethodSelect() instanceof IdentifierTree), "3", call.toString());
        for (ExpressionTree argument : call.getArguments()) {
            broken(holdsCall(argument), "10", call.toString());
        }
        return super.visitMethodInvocation(call, none);
    }

    private String enclosingMethod() {
        String name = FIELDS;
        for (Tree tree : getCurrentPath()) {
            if (tree instanceof MethodTree method) {
                name = method.getName().toString();
            }
        }
        return name;
    }

    private static boolean holdsCall(Tree argument) {
        boolean[] found = {false};
        new TreeScanner<Void, Void>() {
            @Override
            public Void visitMethodInvocation(MethodInvocationTree call, Void none) {
                found[0] = true;
                return null;
            }
        }.scan(argument, null);
        return found[0];
    }
}
