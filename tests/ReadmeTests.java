import java.io.IOException;
import java.lang.reflect.InvocationTargetException;
import java.lang.reflect.Method;
import java.nio.file.Files;
import java.nio.file.Path;
import java.util.List;
import java.util.regex.Matcher;
import java.util.regex.Pattern;

/** The run of calls in README.md answers what is told there, and no call of the class is left out on that page. */
public final class ReadmeTests {
    private static final Pattern SAID = Pattern.compile("say\\(heap, \"([^\"]*)\"\\);");
    private static final Pattern CALLED = Pattern.compile("heap\\.(\\w+)\\(([-0-9, ]*)\\);\\s*// (-?\\d+)\\b.*");

    private static final Check check = new Check();

    private static long answer(RecordHeap heap, String name, String numbers) throws IllegalAccessException, InvocationTargetException {
        String[] each = numbers.isEmpty() ? new String[0] : numbers.split(", ");
        for (Method m : RecordHeap.class.getMethods()) {
            if (m.getName().equals(name) && m.getParameterCount() == each.length) {
                Object[] given = new Object[each.length];
                for (int i = 0; i < each.length; i++) {
                    given[i] = Integer.valueOf(each[i]);
                }
                return ((Number) m.invoke(heap, given)).longValue();
            }
        }
        throw new IllegalArgumentException("no call " + name + "(" + numbers + ")");
    }

    private static void run(List<String> lines) throws IllegalAccessException, InvocationTargetException {
        RecordHeap heap = null;
        int called = 0;
        for (String line : lines) {
            Matcher said = SAID.matcher(line);
            Matcher call = CALLED.matcher(line);
            if (line.equals("RecordHeap heap = new RecordHeap();")) {
                heap = new RecordHeap();
            } else if (heap != null && said.matches()) {
                heap.end(0);
                Tape.feed(heap, said.group(1));
            } else if (heap != null && call.matches()) {
                check.due(call.group(1) + "(" + call.group(2) + ")", answer(heap, call.group(1), call.group(2)), Long.parseLong(call.group(3)));
                called++;
            } else {
                check.holds(line + " tells what it answers", heap == null || !line.startsWith("heap.") && !line.startsWith("say("));
            }
        }
        check.holds("calls were found", called > 20);
    }

    private static void told(String readme) {
        for (Method m : RecordHeap.class.getDeclaredMethods()) {
            if (java.lang.reflect.Modifier.isPublic(m.getModifiers())) {
                check.holds(m.getName() + " is told", readme.contains("`" + m.getName() + "`"));
            }
        }
        check.holds("how to run the tests", readme.contains(".ci/run"));
    }

    public static void main(String[] args) throws IOException, IllegalAccessException, InvocationTargetException {
        Path page = Path.of("README.md");
        check.begin("readme: its run of calls");
        run(Files.readAllLines(page));
        check.end();
        check.begin("readme: each call is told");
        told(Files.readString(page));
        check.end();
        check.close();
    }
}
