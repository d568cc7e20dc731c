import java.lang.reflect.Method;
import java.nio.file.Files;
import java.nio.file.Path;
import java.util.TreeSet;
import java.util.regex.Matcher;
import java.util.regex.Pattern;

/** Makes the calls of the README's example and looks at the answers told there. */
public final class ReadmeTest {
    private static final Pattern CALL =
            Pattern.compile("x\\.(\\w+)\\(([^)]*)\\);\\s*// (-?\\d+)\\b.*");

    private static final Answers answers = new Answers();

    public static void main(String[] args) throws Exception {
        FlameTree x = new FlameTree();
        TreeSet<String> shown = new TreeSet<>();
        for (String line : Files.readAllLines(Path.of("README.md"))) {
            if (!line.startsWith("x.")) continue;
            Matcher call = CALL.matcher(line);
            answers.dueTrue("a call with its answer: " + line, call.matches());
            shown.add(call.group(1));
            answers.due(line, answerOf(x, call.group(1), call.group(2)), Integer.parseInt(call.group(3)));
        }
        for (Method m : FlameTree.class.getMethods()) {
            if (m.getDeclaringClass() == FlameTree.class) {
                answers.dueTrue("the example shows " + m.getName(), shown.contains(m.getName()));
            }
        }
        answers.end();
    }

    private static int answerOf(FlameTree x, String name, String arguments) throws Exception {
        String[] texts = arguments.isEmpty() ? new String[0] : arguments.split(", ");
        Class<?>[] types = new Class<?>[texts.length];
        Object[] values = new Object[texts.length];
        for (int i = 0; i < texts.length; i++) {
            types[i] = int.class;
            values[i] = Integer.parseInt(texts[i]);
        }
        return (int) FlameTree.class.getMethod(name, types).invoke(x, values);
    }
}
