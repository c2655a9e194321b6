import java.io.IOException;
import java.lang.reflect.Constructor;
import java.lang.reflect.Executable;
import java.lang.reflect.Field;
import java.lang.reflect.Method;
import java.lang.reflect.Modifier;
import java.nio.file.Files;
import java.nio.file.Path;
import java.util.ArrayList;
import java.util.List;
import java.util.Random;
import java.util.TreeSet;
import java.util.regex.Pattern;

/** The public face, what LANGUAGE.md says of the file, and that no call ever throws. */
public final class FaceTest {
    private static final Bench BENCH = new Bench("FaceTest");

    private static final String[] FACE = {
        "feed 5", "end 1", "market 0", "bundle 1", "root 1", "purse 2", "pool 2", "depth 2", "stake 2", "add 6",
        "take 2", "pay 1", "levy 1", "in 5", "out 4", "passes 1", "mean 2", "quoteIn 5", "quoteOut 4", "round 3",
        "least 3", "route 4", "parts 4", "ring 2", "total 1", "count 1",
    };

    public static void main(String[] args) throws IOException, ReflectiveOperationException {
        face();
        classesInside();
        wordsOfTheFile();
        neverThrows();
        BENCH.finish();
    }

    private static void face() {
        BENCH.due("NONE", TickPools.NONE, -1);
        BENCH.due("public and final", TickPools.class.getModifiers(), Modifier.PUBLIC | Modifier.FINAL);
        BENCH.due("constructors", TickPools.class.getDeclaredConstructors().length, 1);
        TreeSet<String> due = new TreeSet<>(List.of(FACE));
        TreeSet<String> found = new TreeSet<>();
        TreeSet<String> names = new TreeSet<>();
        TreeSet<String> hidden = new TreeSet<>();
        for (Method method : TickPools.class.getDeclaredMethods()) {
            if (Modifier.isPublic(method.getModifiers())) {
                found.add(method.getName() + " " + method.getParameterCount());
                names.add(method.getName());
                BENCH.holds(method + " answers an int", method.getReturnType() == int.class);
                for (Class<?> type : method.getParameterTypes()) {
                    BENCH.holds(method + " takes ints", type == int.class);
                }
            } else {
                hidden.add(method.getName());
                BENCH.holds(method + " is private", Modifier.isPrivate(method.getModifiers()));
            }
        }
        BENCH.holds("the face is the document's: " + found, found.equals(due));
        for (Class<?> inside : TickPools.class.getDeclaredClasses()) {
            for (Method method : inside.getDeclaredMethods()) {
                hidden.add(method.getName());
            }
        }
        hidden.retainAll(names);
        BENCH.holds("no other method bears a public one's name: " + hidden, hidden.isEmpty());
        for (Field field : TickPools.class.getDeclaredFields()) {
            BENCH.holds(field + " is private or NONE",
                Modifier.isPrivate(field.getModifiers()) || field.getName().equals("NONE"));
        }
    }

    private static void classesInside() {
        List<Class<?>> all = new ArrayList<>(List.of(TickPools.class.getDeclaredClasses()));
        all.add(TickPools.class);
        BENCH.holds("twelve classes at most", all.size() <= 12);
        for (Class<?> each : all) {
            BENCH.holds(each + " is static", each == TickPools.class || Modifier.isStatic(each.getModifiers()));
            int fields = 0;
            for (Field field : each.getDeclaredFields()) {
                boolean isStatic = Modifier.isStatic(field.getModifiers());
                fields += isStatic ? 0 : 1;
                BENCH.holds(field + ", if static, is final", !isStatic || Modifier.isFinal(field.getModifiers()));
            }
            BENCH.holds(each + " has twenty fields at most", fields <= 20);
            List<Executable> code = new ArrayList<>(List.of(each.getDeclaredMethods()));
            code.addAll(List.of(each.getDeclaredConstructors()));
            for (Executable one : code) {
                BENCH.holds(one + " takes seven at most", one.getParameterCount() <= 7);
                BENCH.holds(one + " is no lambda", !one.isSynthetic() || one instanceof Constructor);
            }
        }
    }

    private static void wordsOfTheFile() throws IOException {
        String file = Files.readString(Path.of("src/main/java/TickPools.java"));
        String code = file.replaceAll("(?s)/\\*.*?\\*/", "").replaceAll("//[^\\n]*", "");
        String[] banned = {
            "throw", "throws", "try", "catch", "synchronized", "assert", "import", "package", "instanceof", "double",
            "float", "protected", "hashCode", "toString", "Exact", "Object", "var", "record", "enum", "HashMap",
        };
        for (String word : banned) {
            BENCH.holds("no '" + word + "'", !Pattern.compile("\\b" + word + "\\b").matcher(code).find());
        }
        BENCH.holds("no lambda", !code.contains("->"));
        BENCH.holds("no method reference", !code.contains("::"));
        BENCH.holds("plain signs", file.chars().allMatch(sign -> sign == '\n' || sign >= 32 && sign < 127));
        BENCH.holds("no static block", !Pattern.compile("static\\s*\\{").matcher(code).find());
        String[] lines = code.split("\n");
        int start = 0;
        for (int i = 0; i < lines.length; i++) {
            if (lines[i].matches(" {4,8}[a-zA-Z].*\\) \\{")) {
                start = i;
            }
            if (lines[i].matches(" {4,8}\\}")) {
                BENCH.holds("sixty lines at most up to: " + lines[start].trim(), i - start <= 60);
            }
        }
    }

    private static void neverThrows() throws ReflectiveOperationException {
        Random chance = new Random(4711);
        int[] odd = {Integer.MIN_VALUE, -1, 0, 1, 2, 3, 4, 5, 11, 12, 19, 39, 40, 41, 399, 400, 9999999, 10000000,
            Integer.MAX_VALUE};
        List<Method> methods = new ArrayList<>();
        for (Method method : TickPools.class.getDeclaredMethods()) {
            if (Modifier.isPublic(method.getModifiers())) {
                methods.add(method);
            }
        }
        for (int run = 0; run < 400; run++) {
            TickPools x = new TickPools();
            if (run % 4 != 0) {
                Bench.market(x, "market 3 2;pool 0 1 3 9 1 1 1;pool 1 2 99 100 1 2 1;pool 2 0 0 0 10 1 3;purse 0 0 9999999;"
                    + "purse 0 1 9999999;purse 0 2 9999999;purse 1 0 9999999;purse 1 1 9999999;purse 1 2 9999999");
                x.add(0, 0, 15, 25, run % 3, 99999);
                x.add(1, 1, 20, 40, run % 3, 99999);
                x.add(0, 2, 0, 40, run % 3, 99999);
            }
            for (int call = 0; call < 300; call++) {
                Method method = methods.get(chance.nextInt(methods.size()));
                Object[] numbers = new Object[method.getParameterCount()];
                for (int i = 0; i < numbers.length; i++) {
                    numbers[i] = chance.nextInt(4) == 0 ? odd[chance.nextInt(odd.length)] : chance.nextInt(42) - 1;
                }
                method.invoke(x, numbers);
            }
        }
        BENCH.holds("no call has thrown", true);
    }
}
