import java.io.IOException;
import java.lang.reflect.Method;
import java.nio.file.Files;
import java.nio.file.Path;
import java.util.HashMap;
import java.util.Map;

/** Long runs of mixed calls, with the answers of a second model that was written from the document alone. */
public final class RunsTest {
    private static final Bench BENCH = new Bench("RunsTest");
    // The second one is about loans that go wrong and texts at their limits.
    private static final String[] FILES = {"runs.txt", "loans.txt"};

    public static void main(String[] args) throws IOException, ReflectiveOperationException {
        Map<String, Method> methods = new HashMap<>();
        for (Method method : TickPools.class.getDeclaredMethods()) {
            methods.put(method.getName(), method);
        }
        for (String file : FILES) {
            runs(file, methods);
        }
        BENCH.finish();
    }

    private static void runs(String file, Map<String, Method> methods)
            throws IOException, ReflectiveOperationException {
        TickPools x = null;
        int number = 0;
        for (String line : Files.readAllLines(Path.of("src/test/runs", file))) {
            number++;
            if (line.equals("new")) {
                x = new TickPools();
                continue;
            }
            String[] words = line.split(" ");
            Object[] numbers = new Object[words.length - 3];
            for (int i = 0; i < numbers.length; i++) {
                numbers[i] = Integer.valueOf(words[i + 1]);
            }
            int got = (Integer) methods.get(words[0]).invoke(x, numbers);
            BENCH.due(file + " " + number + ": " + line, got, Integer.parseInt(words[words.length - 1]));
        }
    }
}
