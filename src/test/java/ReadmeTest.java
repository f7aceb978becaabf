import java.io.IOException;
import java.lang.reflect.InvocationTargetException;
import java.lang.reflect.Method;
import java.nio.file.Files;
import java.nio.file.Path;
import java.util.regex.Matcher;
import java.util.regex.Pattern;

/** The examples of README.md: each call answers what stands behind it. */
public final class ReadmeTest {
    private static final String NEW_BOARD = "TangramBoard board = new TangramBoard();";
    // The answer ends at a colon, behind which it is explained, or with the line.
    private static final Pattern CALL = Pattern.compile("board\\.(\\w+)\\((.*?)\\);\\s*// ([^:]*)(:.*)?");
    private static final int LEAST_CALLS = 50;

    private final Checks checks = new Checks();
    private TangramBoard board = new TangramBoard();
    private int calls;

    public static void main(String[] args) throws IOException {
        ReadmeTest test = new ReadmeTest();
        boolean isExample = false;
        for (String line : Files.readAllLines(Path.of("README.md"))) {
            if (line.startsWith("```")) {
                isExample = line.equals("```java");
            } else if (isExample) {
                test.follow(line);
            }
        }
        test.checks.due("README.md has examples", test.calls >= LEAST_CALLS, true);
        test.checks.end();
    }

    private void follow(String line) {
        Matcher call = CALL.matcher(line);
        if (line.startsWith(NEW_BOARD)) {
            board = new TangramBoard();
        } else if (call.matches()) {
            calls++;
            checks.due(line, answerOf(call.group(1), call.group(2)), call.group(3));
        } else {
            checks.due(line, "no call with an answer", "a call with an answer");
        }
    }

    private Object answerOf(String name, String arguments) {
        String[] words = arguments.isEmpty() ? new String[0] : arguments.split(", ");
        for (Method method : TangramBoard.class.getMethods()) {
            if (method.getName().equals(name) && method.getParameterCount() == words.length) {
                return answerOf(method, words);
            }
        }
        return "no such method";
    }

    private Object answerOf(Method method, String[] words) {
        Object[] values = new Object[words.length];
        for (int i = 0; i < words.length; i++) {
            boolean isNumber = method.getParameterTypes()[i] == int.class;
            values[i] = isNumber ? (Object) Long.decode(words[i]).intValue() : (Object) Boolean.valueOf(words[i]);
        }
        try {
            return method.invoke(board, values);
        } catch (InvocationTargetException e) {
            return "throws " + e.getCause().getClass().getSimpleName();
        } catch (IllegalAccessException e) {
            return "not accessible";
        }
    }
}
