import java.io.IOException;
import java.lang.reflect.InvocationTargetException;
import java.lang.reflect.Method;
import java.nio.file.DirectoryStream;
import java.nio.file.Files;
import java.nio.file.Path;
import java.util.regex.Matcher;
import java.util.regex.Pattern;

/** The README's example is made, call by call, and answers what stands behind it; its tables leave nothing out. */
public final class ReadmeTest {
    private static final Path README = Path.of("README.md");
    private static final Path TESTS = Path.of("src/test/java");
    private static final String CALL_BEGINS = "    hall.";
    private static final Pattern CALL = Pattern.compile(" {4}hall\\.(\\w+)\\(([-0-9, ]*)\\); +// (.+)");

    private final ChanceHall hall = new ChanceHall();
    private final String text;

    private ReadmeTest() throws IOException {
        text = Files.readString(README);
    }

    public static void main(String[] args) throws IOException, ReflectiveOperationException {
        ReadmeTest test = new ReadmeTest();
        test.checkExample();
        test.checkCalls();
        test.checkTests();
        Check.end();
    }

    private void checkExample() throws ReflectiveOperationException {
        int calls = 0;
        for (String line : text.split("\n")) {
            if (line.startsWith(CALL_BEGINS)) {
                calls++;
                checkCall(line);
            }
        }
        Check.due("the README has an example", calls > 0, true);
    }

    private void checkCall(String line) throws ReflectiveOperationException {
        Matcher call = CALL.matcher(line);
        if (!call.matches()) {
            Check.say("no call with its answer behind it: " + line);
            return;
        }
        Method method = methodNamed(call.group(1));
        String answer = answerOf(method, call.group(2));
        boolean isVoid = method.getReturnType() == void.class && answer.equals("null");
        if (!isVoid && !call.group(3).split(":")[0].equals(answer)) {
            Check.say("answered " + answer + ":" + line);
        }
    }

    private static Method methodNamed(String name) throws NoSuchMethodException {
        for (Method method : ChanceHall.class.getDeclaredMethods()) {
            if (method.getName().equals(name)) {
                return method;
            }
        }
        throw new NoSuchMethodException(name);
    }

    private String answerOf(Method method, String list) throws IllegalAccessException {
        String[] words = list.isEmpty() ? new String[0] : list.split(", ");
        Object[] arguments = new Object[words.length];
        for (int i = 0; i < words.length; i++) {
            arguments[i] = Integer.valueOf(words[i]);
        }
        try {
            return String.valueOf(method.invoke(hall, arguments));
        } catch (InvocationTargetException thrown) {
            return thrown.getCause().getClass().getSimpleName();
        }
    }

    private void checkCalls() {
        for (Method method : ChanceHall.class.getMethods()) {
            if (method.getDeclaringClass() == ChanceHall.class) {
                checkNamed(method.getName());
            }
        }
    }

    private void checkTests() throws IOException {
        try (DirectoryStream<Path> files = Files.newDirectoryStream(TESTS, "*Test.java")) {
            for (Path file : files) {
                checkNamed(file.getFileName().toString().replace(".java", ""));
            }
        }
    }

    /** The names stand in rows of tables. */
    private void checkNamed(String name) {
        boolean isNamed = Pattern.compile("(?m)^\\|.*`" + name + "`").matcher(text).find();
        Check.due("the README names " + name, isNamed, true);
    }
}
