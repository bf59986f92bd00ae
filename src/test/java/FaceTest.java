import java.lang.reflect.Constructor;
import java.lang.reflect.Field;
import java.lang.reflect.Member;
import java.lang.reflect.Method;
import java.lang.reflect.Modifier;
import java.util.List;
import java.util.TreeSet;

/** The public face is the document's, whole and without any other visible member. */
final class FaceTest {
    private static final Check check = new Check();

    public static void main(String[] args) throws IllegalAccessException {
        check.due("visible members", visibleMembers(), new TreeSet<>(List.of(
            "KIND_NONE = 0", "KIND_VAR = 1", "KIND_ATOM = 2", "KIND_INT = 3", "KIND_STRUCT = 4",
            "MAX_NAME = 4095", "MIN_INT = -32768", "MAX_INT = 32767", "MAX_ARITY = 4",
            "MAX_CHOICES = 8", "TREE_LIMIT = 1000", "BIND_OK = 1", "BIND_FAIL = 0",
            "BIND_REFUSED = -1", "MIN_ROOTS = 2", "MAX_ROOTS = 8", "MIN_BUDGET = 16",
            "MAX_BUDGET = 240", "constructor 2",
            "boolean setConst 3", "boolean newVar 1", "boolean build 4", "boolean move 2",
            "boolean getArg 3", "int bind 2", "boolean pushChoice 0", "boolean backtrack 0",
            "boolean popChoice 0", "void collect 0", "int kind 1", "int value 1", "int arity 1",
            "boolean sameVar 2", "int treeSize 1", "int used 0")));
        check.due("modifiers", LogicHeapCollector.class.getModifiers(),
            Modifier.PUBLIC | Modifier.FINAL);
        check.finish();
    }

    private static TreeSet<String> visibleMembers() throws IllegalAccessException {
        TreeSet<String> names = new TreeSet<>();
        for (Field field : LogicHeapCollector.class.getDeclaredFields()) {
            if (isVisible(field)) {
                names.add(field.getName() + " = " + field.getInt(null));
            }
        }
        for (Constructor<?> made : LogicHeapCollector.class.getDeclaredConstructors()) {
            if (isVisible(made)) {
                names.add("constructor " + made.getParameterCount());
            }
        }
        for (Method method : LogicHeapCollector.class.getDeclaredMethods()) {
            if (isVisible(method)) {
                String answer = method.getReturnType().getName();
                names.add(answer + " " + method.getName() + " " + method.getParameterCount());
            }
        }
        return names;
    }

    private static boolean isVisible(Member member) {
        return !Modifier.isPrivate(member.getModifiers());
    }
}
