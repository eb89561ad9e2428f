import java.io.IOException;
import java.lang.reflect.Constructor;
import java.lang.reflect.Field;
import java.lang.reflect.InvocationTargetException;
import java.lang.reflect.Method;
import java.lang.reflect.Modifier;
import java.nio.charset.StandardCharsets;
import java.nio.file.Files;
import java.nio.file.Paths;
import java.util.Arrays;
import java.util.Comparator;
import java.util.Random;
import java.util.TreeSet;
import java.util.regex.Matcher;
import java.util.regex.Pattern;

/** Tests the public face, and the rules of LANGUAGE.md that can be seen in the class and in the source's words. */
public final class Language {
    private static final String[] METHODS = {"begin 1", "edge 3", "become 1", "undo 0", "told 1", "vertex 2", "image 3",
        "copies 1", "hold 1", "keepDeck 0", "addCard 1", "dropCard 1", "card 2", "deck 1", "counted 1", "answer 1",
        "missing 1", "accept 1"};
    private static final String[] CONSTANTS = {"BAD -1", "STATE -2", "FULL -3", "NONE -9"};
    private static final String[] FORBIDDEN = {"throw", "throws", "try", "catch", "synchronized", "assert", "import",
        "package", "protected", "volatile", "native", "double", "float", "Object", "System", "Random", "Thread",
        "hashCode", "equals", "toString", "Exact", "MAX_VALUE", "MIN_VALUE"};

    private static final int[] EDGES = {Integer.MIN_VALUE, Integer.MIN_VALUE + 1, -32, -31, -9, -1, 31, 32, 63, 1023, 1 << 28,
        Integer.MAX_VALUE - 1, Integer.MAX_VALUE};

    private static int wrong = 0;

    public static void main(String[] args) throws IOException, IllegalAccessException {
        face();
        for (Class<?> inside : GraphDeck.class.getDeclaredClasses()) {
            classInside(inside);
        }
        String source = new String(Files.readAllBytes(Paths.get("src/main/java/GraphDeck.java")), StandardCharsets.US_ASCII);
        anyArguments();
        words(source.replaceAll("(?s)/\\*.*?\\*/", "").replaceAll("//[^\\n]*", ""));
        System.out.println(wrong == 0 ? "the language is as due" : wrong + " rules are broken");
        if (wrong != 0) {
            System.exit(1);
        }
    }

    private static void check(boolean holds, String rule) {
        if (!holds) {
            wrong++;
            System.out.println("broken: " + rule);
        }
    }

    private static void face() throws IllegalAccessException {
        Class<?> c = GraphDeck.class;
        check(c.getModifiers() == (Modifier.PUBLIC | Modifier.FINAL), "the class is public and final");
        Constructor<?>[] constructors = c.getDeclaredConstructors();
        check(constructors.length == 1 && Modifier.isPublic(constructors[0].getModifiers())
            && constructors[0].getParameterCount() == 0, "one public constructor");
        TreeSet<String> methods = new TreeSet<>();
        for (Method m : c.getDeclaredMethods()) {
            if (!Modifier.isPrivate(m.getModifiers())) {
                methods.add(m.getName() + " " + m.getParameterCount());
                check(m.getModifiers() == Modifier.PUBLIC && m.getReturnType() == int.class, m + " is public and answers an int");
                for (Class<?> type : m.getParameterTypes()) {
                    check(type == int.class, m + " takes ints");
                }
            } else {
                check(!isPublicName(m.getName()), m + " has a name of its own");
            }
        }
        check(methods.equals(new TreeSet<>(Arrays.asList(METHODS))), "the public methods: " + methods);
        TreeSet<String> constants = new TreeSet<>();
        for (Field f : c.getDeclaredFields()) {
            if (!Modifier.isPrivate(f.getModifiers())) {
                check(f.getModifiers() == (Modifier.PUBLIC | Modifier.STATIC | Modifier.FINAL), f + " is a constant");
                constants.add(f.getName() + " " + f.getInt(null));
            }
            check(!Modifier.isStatic(f.getModifiers()) || Modifier.isFinal(f.getModifiers()), f + " is final");
        }
        check(constants.equals(new TreeSet<>(Arrays.asList(CONSTANTS))), "the constants: " + constants);
        check(c.getDeclaredClasses().length <= 11, "some twelve classes");
    }

    private static boolean isPublicName(String name) {
        for (String method : METHODS) {
            if (method.startsWith(name + " ")) {
                return true;
            }
        }
        return false;
    }

    private static void classInside(Class<?> c) {
        int modifiers = c.getModifiers();
        check(Modifier.isStatic(modifiers) && !Modifier.isPublic(modifiers), c + " is static and not public");
        check(c.getDeclaredClasses().length == 0, c + " has no class inside");
        int fields = 0;
        for (Field f : c.getDeclaredFields()) {
            boolean isStatic = Modifier.isStatic(f.getModifiers());
            check(!isStatic || Modifier.isFinal(f.getModifiers()), f + " is final");
            fields += isStatic ? 0 : 1;
        }
        check(fields <= 20, c + " has at most twenty fields");
        for (Method m : c.getDeclaredMethods()) {
            check(m.getParameterCount() <= 7, m + " takes at most seven parameters");
            check(!isPublicName(m.getName()), m + " has a name of its own");
        }
    }

    /** Rule 7: no call throws, in any state, also after the 512th one. */
    private static void anyArguments() throws IllegalAccessException {
        Random random = new Random(13);
        Method[] methods = Arrays.stream(GraphDeck.class.getMethods())
            .filter(m -> m.getDeclaringClass() == GraphDeck.class).sorted(Comparator.comparing(Method::getName)).toArray(Method[]::new);
        for (int run = 0; run < 20; run++) {
            GraphDeck x = new GraphDeck();
            for (int i = 0; i < 3000; i++) {
                Method method = methods[random.nextInt(methods.length)];
                Object[] arguments = new Object[method.getParameterCount()];
                for (int a = 0; a < arguments.length; a++) {
                    int dice = random.nextInt(12);
                    arguments[a] = dice == 0 ? random.nextInt() : dice == 1 ? EDGES[random.nextInt(EDGES.length)] : random.nextInt(9);
                }
                try {
                    method.invoke(x, arguments);
                } catch (InvocationTargetException e) {
                    check(false, "no throw: " + method.getName() + Arrays.toString(arguments) + " threw " + e.getCause());
                    return;
                }
            }
        }
    }

    private static void words(String source) {
        for (String word : FORBIDDEN) {
            check(!Pattern.compile("\\b" + word + "\\b").matcher(source).find(), "no " + word);
        }
        check(!source.contains("->") && !source.contains("::"), "no lambda and no method reference");
        check(!source.contains("\""), "no texts");
        Matcher loops = Pattern.compile("\\bwhile \\((.*)\\) \\{").matcher(source);
        while (loops.find()) {
            check(loops.group(1).matches("\\w+ [<>] \\w+ && .*"), "a bound in: " + loops.group());
        }
        int lines = 0;
        for (String line : source.split("\n")) {
            lines = line.matches("( {4}| {8})\\S.*\\) \\{") ? 0 : lines + 1;
            check(lines <= 60, "a method of at most sixty lines: " + line);
        }
    }
}
