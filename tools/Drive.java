import java.io.BufferedReader;
import java.io.IOException;
import java.io.InputStreamReader;
import java.lang.reflect.Method;
import java.util.HashMap;
import java.util.Map;

/** Reads calls, one a line ("new" makes an object), and prints their answers: for fuzz.py. */
public final class Drive {
    public static void main(String[] args) throws IOException, ReflectiveOperationException {
        Map<String, Method> methods = new HashMap<>();
        for (Method method : TickPools.class.getDeclaredMethods()) {
            methods.put(method.getName(), method);
        }
        TickPools x = null;
        StringBuilder answers = new StringBuilder();
        BufferedReader lines = new BufferedReader(new InputStreamReader(System.in));
        for (String line = lines.readLine(); line != null; line = lines.readLine()) {
            String[] words = line.split(" ");
            if (words[0].equals("new")) {
                x = new TickPools();
                answers.append("0\n");
                continue;
            }
            Object[] numbers = new Object[words.length - 1];
            for (int i = 0; i < numbers.length; i++) {
                numbers[i] = Integer.valueOf(words[i + 1]);
            }
            answers.append(methods.get(words[0]).invoke(x, numbers)).append('\n');
        }
        System.out.print(answers);
    }
}
