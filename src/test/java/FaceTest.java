import java.lang.reflect.Constructor;
import java.lang.reflect.Executable;
import java.lang.reflect.Field;
import java.lang.reflect.Member;
import java.lang.reflect.Method;
import java.lang.reflect.Modifier;
import java.util.List;
import java.util.Set;
import java.util.TreeSet;
import java.util.stream.Collectors;
import java.util.stream.Stream;

/** "The public face" of the document, whole and without any other visible member. */
final class FaceTest {
    private static final List<String> FACE = List.of(
        "public static final int KIND_NONE = 0",
        "public static final int KIND_VAR = 1",
        "public static final int KIND_ATOM = 2",
        "public static final int KIND_INT = 3",
        "public static final int KIND_STRUCT = 4",
        "public static final int MAX_NAME = 4095",
        "public static final int MIN_INT = -32768",
        "public static final int MAX_INT = 32767",
        "public static final int MAX_ARITY = 4",
        "public static final int MAX_CHOICES = 8",
        "public static final int TREE_LIMIT = 1000",
        "public static final int BIND_OK = 1",
        "public static final int BIND_FAIL = 0",
        "public static final int BIND_REFUSED = -1",
        "public static final int MIN_ROOTS = 2",
        "public static final int MAX_ROOTS = 8",
        "public static final int MIN_BUDGET = 16",
        "public static final int MAX_BUDGET = 240",
        "public LogicHeapCollector(int, int)",
        "public boolean setConst(int, int, int)",
        "public boolean newVar(int)",
        "public boolean build(int, int, int, int)",
        "public boolean move(int, int)",
        "public boolean getArg(int, int, int)",
        "public int bind(int, int)",
        "public boolean pushChoice()",
        "public boolean backtrack()",
        "public boolean popChoice()",
        "public void collect()",
        "public int kind(int)",
        "public int value(int)",
        "public int arity(int)",
        "public boolean sameVar(int, int)",
        "public int treeSize(int)",
        "public int used()");

    private static final Class<?> type = LogicHeapCollector.class;
    private static final Check check = new Check();

    public static void main(String[] args) throws IllegalAccessException {
        Set<String> members = visibleMembers();
        Set<String> missing = new TreeSet<>(FACE);
        missing.removeAll(members);
        check.due("members that are missing", missing, Set.of());
        members.removeAll(FACE);
        check.due("members that the document does not show", members, Set.of());
        check.due("modifiers", type.getModifiers(), Modifier.PUBLIC | Modifier.FINAL);
        check.due("superclass", type.getSuperclass(), Object.class);
        check.due("interfaces", type.getInterfaces().length, 0);
        check.due("package", type.getPackageName(), "");
        check.finish();
    }

    private static Set<String> visibleMembers() throws IllegalAccessException {
        Set<String> members = new TreeSet<>();
        for (Field field : type.getDeclaredFields()) {
            if (isVisible(field)) {
                members.add(Modifier.toString(field.getModifiers()) + " " + field.getType() + " "
                    + field.getName() + " = " + field.getInt(null));
            }
        }
        for (Constructor<?> made : type.getDeclaredConstructors()) {
            if (isVisible(made)) {
                members.add(Modifier.toString(made.getModifiers()) + " " + type.getName()
                    + parameters(made));
            }
        }
        for (Method method : type.getDeclaredMethods()) {
            if (isVisible(method)) {
                members.add(Modifier.toString(method.getModifiers()) + " "
                    + method.getReturnType() + " " + method.getName() + parameters(method));
            }
        }
        return members;
    }

    private static String parameters(Executable called) {
        return Stream.of(called.getParameterTypes()).map(Class::getName)
            .collect(Collectors.joining(", ", "(", ")"));
    }

    private static boolean isVisible(Member member) {
        return !Modifier.isPrivate(member.getModifiers());
    }
}
