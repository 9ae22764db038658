import java.io.IOException;
import java.lang.reflect.Method;
import java.nio.file.Files;
import java.nio.file.Path;
import java.util.List;
import java.util.regex.Matcher;
import java.util.regex.Pattern;

/** What README.md says about the calls is so: its examples are run, and it names every method. */
public final class ReadmeTest extends Checks {
    private static final Pattern CALL = Pattern.compile("bench\\.(\\w+)\\((.*)\\); +// (-?\\d+): .+");

    private static RefinementBench bench;
    private static int calls = 0;

    public static void main(String[] args) throws IOException, ReflectiveOperationException {
        test("README.md");
        List<String> lines = Files.readAllLines(Path.of("README.md"));
        boolean inExample = false;
        for (String line : lines) {
            if (line.startsWith("```")) {
                inExample = line.equals("```java");
            } else if (inExample) {
                oneLine(line);
            }
        }
        due("there are examples", calls > 0 ? 1 : 0, 1);
        namesEveryMethod(String.join("\n", lines));
        end("README.md says what is so");
    }

    private static void oneLine(String line) throws ReflectiveOperationException {
        if (line.equals("RefinementBench bench = new RefinementBench();")) {
            bench = new RefinementBench();
            return;
        }
        Matcher call = CALL.matcher(line);
        if (!call.matches()) {
            due("a line that is no call with its answer: " + line, 0, 1);
            return;
        }
        calls++;
        quotesWhatIsTyped(line, call.group(2));
        due(line, answer(call.group(1), call.group(2)), Integer.parseInt(call.group(3)));
    }

    /** Behind type() stands the text that its number is made of. */
    private static void quotesWhatIsTyped(String line, String arguments) {
        if (line.startsWith("bench.type(")) {
            String text = line.substring(line.indexOf('"') + 1, line.lastIndexOf('"'));
            String due = "0x" + Long.toHexString(packed(text)).toUpperCase() + "L, " + text.length();
            due(line + " typed by " + due, arguments.equals(due) ? 1 : 0, 1);
        }
    }

    private static int answer(String name, String written) throws ReflectiveOperationException {
        String[] arguments = written.isEmpty() ? new String[0] : written.split(", ");
        Method called = method(name);
        Object[] given = new Object[arguments.length];
        for (int i = 0; i < given.length; i++) {
            long number = Long.decode(arguments[i].replace("L", ""));
            if (called.getParameterTypes()[i] == long.class) {
                given[i] = number;
            } else {
                given[i] = (int) number;
            }
        }
        return (Integer) called.invoke(bench, given);
    }

    private static Method method(String name) throws NoSuchMethodException {
        for (Method one : RefinementBench.class.getDeclaredMethods()) {
            if (one.getName().equals(name)) {
                return one;
            }
        }
        throw new NoSuchMethodException(name);
    }

    private static void namesEveryMethod(String readme) {
        for (Method one : RefinementBench.class.getMethods()) {
            if (one.getDeclaringClass() == RefinementBench.class) {
                due("`" + one.getName() + "(..)` is told", readme.contains("`" + one.getName() + "(") ? 1 : 0, 1);
            }
        }
    }
}
