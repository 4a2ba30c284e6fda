import java.io.IOException;
import java.lang.reflect.InvocationTargetException;
import java.lang.reflect.Method;
import java.lang.reflect.Modifier;
import java.nio.file.Files;
import java.nio.file.Path;
import java.util.List;
import java.util.regex.Matcher;
import java.util.regex.Pattern;
import java.util.stream.Stream;

/** README.md: its example is answered as it says, and it names each call of the class and each test. */
public final class ReadmeTest {
    private static final Pattern CALL = Pattern.compile("mud\\.(\\w+)\\(([^)]*)\\);\\s*// (-?\\d+)\\b.*");

    private static int wrong = 0;
    private static int asked = 0;

    public static void main(String[] args) throws IOException, ReflectiveOperationException {
        String page = Files.readString(Path.of("README.md"));
        example(page);
        namesEachCall(page);
        namesEachTest(page);
        System.out.println(asked + " sentences of README.md, " + wrong + " wrong");
        if (wrong > 0) {
            System.exit(1);
        }
    }

    private static void must(boolean is, String what) {
        asked++;
        if (!is) {
            wrong++;
            System.out.println("README.md: " + what);
        }
    }

    private static void example(String page) throws ReflectiveOperationException {
        int from = page.indexOf("```java\n");
        int to = page.indexOf("```", from + 3);
        must(from >= 0 && to > from, "there is an example");
        if (from < 0 || to <= from) {
            return;
        }
        LeavesOfMud mud = new LeavesOfMud();
        for (String line : page.substring(from + 8, to).split("\n")) {
            Matcher call = CALL.matcher(line);
            if (call.matches()) {
                long answer = answerOf(mud, call.group(1), call.group(2));
                must(answer == Long.parseLong(call.group(3)), line + " answered " + answer);
            } else {
                must(line.isEmpty() || line.equals("LeavesOfMud mud = new LeavesOfMud();"), "no call: " + line);
            }
        }
    }

    private static long answerOf(LeavesOfMud mud, String name, String told) throws ReflectiveOperationException {
        String[] numbers = told.isEmpty() ? new String[0] : told.split(", ");
        for (Method method : LeavesOfMud.class.getDeclaredMethods()) {
            if (method.getName().equals(name) && method.getParameterCount() == numbers.length) {
                return call(mud, method, numbers);
            }
        }
        must(false, "there is no call " + name + "(" + told + ")");
        return 0;
    }

    private static long call(LeavesOfMud mud, Method method, String[] numbers) throws ReflectiveOperationException {
        Object[] given = new Object[numbers.length];
        for (int i = 0; i < numbers.length; i++) {
            Class<?> type = method.getParameterTypes()[i];
            if (type == boolean.class) {
                given[i] = Boolean.valueOf(numbers[i]);
            } else if (type == long.class) {
                given[i] = Long.decode(numbers[i].replace("L", ""));
            } else {
                given[i] = numbers[i].equals("NONE") ? LeavesOfMud.NONE : Integer.parseInt(numbers[i]);
            }
        }
        try {
            return ((Number) method.invoke(mud, given)).longValue();
        } catch (InvocationTargetException thrown) {
            must(false, method.getName() + " has thrown " + thrown.getCause());
            return 0;
        }
    }

    /** Each call begins a row of the table, alone or beside another one. */
    private static void namesEachCall(String page) {
        for (Method method : LeavesOfMud.class.getDeclaredMethods()) {
            if (Modifier.isPublic(method.getModifiers())) {
                String row = "(?m)^\\|[^|]*`" + method.getName() + "\\(([^)]*)\\)`[^|]*\\|[^|]+\\|[^|]*\\|$";
                Matcher found = Pattern.compile(row).matcher(page);
                boolean is = found.find();
                must(is, "no row of " + method.getName());
                if (is) {
                    String told = found.group(1);
                    int many = told.isEmpty() ? 0 : told.split(", ").length;
                    must(many == method.getParameterCount(), "numbers of " + method.getName());
                }
            }
        }
    }

    private static void namesEachTest(String page) throws IOException {
        List<Path> tests;
        try (Stream<Path> all = Files.list(Path.of("src/test/java"))) {
            tests = all.toList();
        }
        for (Path test : tests) {
            String name = test.getFileName().toString().replace(".java", "");
            must(page.contains("`" + name + "`"), "no word of " + name);
        }
    }
}
