import java.io.File;
import java.io.IOException;
import java.lang.reflect.Field;
import java.lang.reflect.Method;
import java.lang.reflect.Modifier;
import java.nio.charset.StandardCharsets;
import java.nio.file.Files;
import java.nio.file.Paths;
import java.util.Arrays;
import java.util.regex.Matcher;
import java.util.regex.Pattern;

/** Tests that the calls in README.md answer what it says, and that it names the whole face and every test. */
public final class Readme {
    private static final Pattern CALL = Pattern.compile("x\\.(\\w+)\\(([^)]*)\\); +// (-?\\d+)(?:: .*)?");

    private static int wrong = 0;
    private static int calls = 0;

    public static void main(String[] args) throws IOException, ReflectiveOperationException {
        String page = new String(Files.readAllBytes(Paths.get("README.md")), StandardCharsets.UTF_8);
        Matcher block = Pattern.compile("(?s)```java\n(.*?)```").matcher(page);
        while (block.find()) {
            run(block.group(1));
        }
        check(calls > 0, "no call is shown");
        namesTheFace(page);
        namesTheTests(page);
        System.out.println(calls + " calls of README.md, " + wrong + " faults");
        if (wrong != 0) {
            System.exit(1);
        }
    }

    private static void check(boolean holds, String fault) {
        if (!holds) {
            wrong++;
            System.out.println(fault);
        }
    }

    private static void run(String lines) throws ReflectiveOperationException {
        GraphDeck x = null;
        for (String line : lines.split("\n")) {
            Matcher call = CALL.matcher(line);
            if (line.startsWith("GraphDeck x = new GraphDeck();")) {
                x = new GraphDeck();
            } else if (x == null || !call.matches()) {
                check(false, "no call with its answer: " + line);
            } else {
                int got = answerOf(x, call.group(1), call.group(2));
                check(got == Integer.parseInt(call.group(3)), line + " -- answered " + got);
            }
        }
    }

    private static int answerOf(GraphDeck x, String name, String list) throws ReflectiveOperationException {
        calls++;
        Object[] arguments = Arrays.stream(list.split(", ")).filter(text -> !text.isEmpty()).map(Integer::valueOf).toArray();
        Class<?>[] types = new Class<?>[arguments.length];
        Arrays.fill(types, int.class);
        return (Integer) GraphDeck.class.getMethod(name, types).invoke(x, arguments);
    }

    private static void namesTheFace(String page) throws IllegalAccessException {
        for (Method method : GraphDeck.class.getDeclaredMethods()) {
            if (Modifier.isPublic(method.getModifiers())) {
                Pattern row = Pattern.compile("(?m)^\\| `" + method.getName() + "\\(([^)]*)\\)` \\| .+ \\|$");
                Matcher found = row.matcher(page);
                check(found.find() && parameters(found.group(1)) == method.getParameterCount(), "not told: " + method);
            }
        }
        for (Field field : GraphDeck.class.getDeclaredFields()) {
            if (Modifier.isPublic(field.getModifiers())) {
                String row = "| `" + field.getName() + "` (" + field.getInt(null) + ") |";
                check(page.contains("\n" + row), "not told: " + field);
            }
        }
    }

    private static int parameters(String list) {
        return list.isEmpty() ? 0 : list.split(", ").length;
    }

    private static void namesTheTests(String page) {
        String[] names = new File("src/test/java").list();
        check(names != null && names.length > 0, "no tests");
        for (String name : names == null ? new String[0] : names) {
            check(page.contains("\n- `" + name + "`: "), "not told: " + name);
        }
    }
}
