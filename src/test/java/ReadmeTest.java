import java.io.IOException;
import java.lang.reflect.InvocationTargetException;
import java.lang.reflect.Method;
import java.nio.file.Files;
import java.nio.file.Path;
import java.util.regex.Matcher;
import java.util.regex.Pattern;

/** The example in README.md: each call with a comment that begins with true, false or a number answers it. */
public final class ReadmeTest {
    private static final Pattern CALL = Pattern.compile("x\\.(\\w+)\\((.*?)\\);\\s*(?://\\s*(true|false|-?\\d+)\\b)?.*");

    private final MergeGraphs x = new MergeGraphs();
    private int compared = 0;

    public static void main(String[] args) throws IOException {
        new ReadmeTest().run();
        Due.end("ReadmeTest");
    }

    private void run() throws IOException {
        for (String line : Files.readAllLines(Path.of("README.md"))) {
            Matcher call = CALL.matcher(line);
            if (call.matches()) {
                Object got = answerOf(call.group(1), call.group(2).split(", "));
                if (call.group(3) != null) {
                    Due.dueText("README.md: " + line, call.group(3), String.valueOf(got));
                    compared++;
                }
            }
        }
        Due.dueTrue("README.md shows calls with their answers", compared >= 6);
    }

    private Object answerOf(String name, String[] words) {
        for (Method method : MergeGraphs.class.getMethods()) {
            if (method.getName().equals(name) && method.getParameterCount() == words.length) {
                return answerOf(method, words);
            }
        }
        return "no such call";
    }

    private Object answerOf(Method method, String[] words) {
        Object[] values = new Object[words.length];
        for (int i = 0; i < words.length; i++) {
            boolean isFlag = method.getParameterTypes()[i] == boolean.class;
            values[i] = isFlag ? (Object) Boolean.valueOf(words[i]) : (Object) Integer.valueOf(words[i]);
        }
        try {
            return method.invoke(x, values);
        } catch (IllegalAccessException | InvocationTargetException e) {
            return e.toString();
        }
    }
}
