import java.io.IOException;
import java.lang.reflect.Method;
import java.lang.reflect.Modifier;
import java.nio.file.Files;
import java.nio.file.Path;
import java.util.Set;
import java.util.TreeSet;
import java.util.regex.Matcher;
import java.util.regex.Pattern;

/** README.md tells every call, and its example answers what it says there. */
public final class ReadmeTest {
    private static final Pattern TOLD = Pattern.compile("(?m)^\\| `(\\w+)\\((.*?)\\)` \\|");
    private static final Pattern DONE = Pattern.compile("(?m)^t\\.(\\w+)\\((.*?)\\); *// (-?\\d+): ");
    private static final Pattern CALLED = Pattern.compile("(?m)^t\\.\\w+\\(");
    private static final Pattern TEXT = Pattern.compile("`(tent [^`]*;)`");

    public static void main(String[] args) throws IOException, ReflectiveOperationException {
        String readme = Files.readString(Path.of("README.md"));
        everyCallIsTold(readme);
        theExampleAnswers(readme);
        theTextIsRead(readme);
        Due.end("ReadmeTest");
    }

    private static void everyCallIsTold(String readme) {
        Set<String> told = new TreeSet<>();
        Matcher m = TOLD.matcher(readme);
        while (m.find()) {
            told.add(m.group(1) + " " + numbersIn(m.group(2)).length);
        }
        Set<String> shown = new TreeSet<>();
        for (Method call : TentPegs.class.getDeclaredMethods()) {
            if (Modifier.isPublic(call.getModifiers())) {
                shown.add(call.getName() + " " + call.getParameterCount());
            }
        }
        Due.holds("README.md tells all calls, with as many numbers: " + told, told.equals(shown));
    }

    private static void theExampleAnswers(String readme) throws ReflectiveOperationException {
        TentPegs t = new TentPegs();
        Matcher m = DONE.matcher(readme);
        int done = 0;
        while (m.find()) {
            done++;
            Due.due("README.md: " + m.group(1) + "(" + m.group(2) + ")", answer(t, m.group(1), numbersIn(m.group(2))),
                Long.parseLong(m.group(3)));
        }
        Due.holds("the example has calls", done > 0);
        Due.due("calls of the example with an answer", done, CALLED.matcher(readme).results().count());
    }

    private static long answer(TentPegs t, String name, String[] numbers) throws ReflectiveOperationException {
        for (Method call : TentPegs.class.getDeclaredMethods()) {
            if (call.getName().equals(name) && call.getParameterCount() == numbers.length) {
                Object[] values = new Object[numbers.length];
                for (int i = 0; i < numbers.length; i++) {
                    values[i] = call.getParameterTypes()[i] == boolean.class ? (Object) Boolean.valueOf(numbers[i])
                        : (Object) (numbers[i].equals("TentPegs.NONE") ? TentPegs.NONE : Integer.parseInt(numbers[i]));
                }
                return ((Number) call.invoke(t, values)).longValue();
            }
        }
        throw new IllegalArgumentException("no such call: " + name);
    }

    private static void theTextIsRead(String readme) {
        Matcher m = TEXT.matcher(readme);
        Due.holds("there is a text", m.find());
        Due.due("items of README.md's text", Due.read(new TentPegs(), m.group(1)), m.group(1).split(";").length);
    }

    private static String[] numbersIn(String list) {
        return list.isEmpty() ? new String[0] : list.split(", ");
    }
}
