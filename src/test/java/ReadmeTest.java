import java.io.IOException;
import java.lang.reflect.Method;
import java.lang.reflect.Modifier;
import java.nio.file.Files;
import java.nio.file.Path;
import java.util.Arrays;
import java.util.regex.Matcher;
import java.util.regex.Pattern;
import java.util.stream.Stream;

/** The example of README.md answers as its comments say, and every call has its place there. */
final class ReadmeTest {
    private static final Pattern NEW =
        Pattern.compile("LogicHeapCollector x = new LogicHeapCollector\\((\\d+), (\\d+)\\);");
    private static final Pattern CALL =
        Pattern.compile("^x\\.(\\w+)\\((.*)\\); +// (\\w+|-\\d+): .*$", Pattern.MULTILINE);
    private static final int LEAST_CALLS = 10;
    private static final Check check = new Check();

    public static void main(String[] args) throws IOException, ReflectiveOperationException {
        String readme = Files.readString(Path.of("README.md"));
        runsTheExample(readme);
        for (Method method : LogicHeapCollector.class.getDeclaredMethods()) {
            if (Modifier.isPublic(method.getModifiers())) {
                check.due("README.md names " + method.getName(),
                    readme.contains("`" + method.getName() + "("), true);
            }
        }
        check.finish();
    }

    private static void runsTheExample(String readme) throws ReflectiveOperationException {
        Matcher made = NEW.matcher(readme);
        check.due("README.md makes an object", made.find(), true);
        LogicHeapCollector x = new LogicHeapCollector(number(made.group(1)), number(made.group(2)));
        Matcher call = CALL.matcher(readme);
        int calls = 0;
        while (call.find()) {
            calls++;
            check.due(call.group(), answer(x, call.group(1), call.group(2)), due(call.group(3)));
        }
        check.due("README.md has an example", calls >= LEAST_CALLS, true);
    }

    private static Object answer(LogicHeapCollector x, String name, String arguments)
            throws ReflectiveOperationException {
        Object[] numbers = Stream.of(arguments.split(", ")).filter(text -> !text.isEmpty())
            .map(ReadmeTest::number).toArray();
        Class<?>[] types = new Class<?>[numbers.length];
        Arrays.fill(types, int.class);
        return LogicHeapCollector.class.getMethod(name, types).invoke(x, numbers);
    }

    private static Object due(String text) {
        boolean isBoolean = text.equals("true") || text.equals("false");
        return isBoolean ? (Object) Boolean.valueOf(text) : (Object) number(text);
    }

    /** A number, or the name of one of the class's constants. */
    private static int number(String text) {
        if (text.matches("-?\\d+")) {
            return Integer.parseInt(text);
        }
        try {
            String name = text.replace("LogicHeapCollector.", "");
            return LogicHeapCollector.class.getField(name).getInt(null);
        } catch (ReflectiveOperationException e) {
            throw new IllegalStateException("README.md: " + text, e);
        }
    }
}
