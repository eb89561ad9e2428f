import java.io.ByteArrayOutputStream;
import java.io.File;
import java.io.IOException;
import java.io.OutputStream;
import java.io.StringWriter;
import java.lang.reflect.Method;
import java.net.URI;
import java.nio.charset.StandardCharsets;
import java.nio.file.Files;
import java.nio.file.Paths;
import java.util.ArrayList;
import java.util.HashMap;
import java.util.List;
import java.util.Map;
import java.util.Set;
import javax.tools.FileObject;
import javax.tools.ForwardingJavaFileManager;
import javax.tools.JavaCompiler;
import javax.tools.JavaFileManager;
import javax.tools.JavaFileObject;
import javax.tools.SimpleJavaFileObject;
import javax.tools.StandardJavaFileManager;
import javax.tools.ToolProvider;

/**
 * Tests the tests of the sentences: breaks the class in one place, in memory,
 * and asks that the test of the sentence that is broken then fails. The places
 * are texts of the source, each of which must stand there exactly once: who
 * alters such a line writes its mutant anew.
 */
public final class Mutants {
    private static final String SOURCE = "src/main/java/GraphDeck.java";
    private static final JavaCompiler COMPILER = ToolProvider.getSystemJavaCompiler();
    // Made once: it takes longer to find the library's classes than to compile with them.
    private static final StandardJavaFileManager FILES = COMPILER.getStandardFileManager(null, null, null);

    private final String source;
    private final Map<String, byte[]> tests;
    private int made = 0;
    private int wrong = 0;

    private Mutants(String source, Map<String, byte[]> tests) {
        this.source = source;
        this.tests = tests;
    }

    public static void main(String[] args) throws IOException, ReflectiveOperationException {
        String source = new String(Files.readAllBytes(Paths.get(SOURCE)), StandardCharsets.UTF_8);
        Mutants mutants = new Mutants(source, compile(testFiles()));
        mutants.whole();
        for (MutantList.Mutant mutant : MutantList.all()) {
            mutants.check(mutant);
        }
        System.out.println(mutants.made + " mutants, " + mutants.wrong + " are not as due");
        if (mutants.wrong != 0) {
            System.exit(1);
        }
    }

    private void fault(String text) {
        wrong++;
        System.out.println(text);
    }

    private void whole() throws ReflectiveOperationException {
        Loader loader = load(source);
        call(loader, "Boundaries", "testAll");
        Set<?> broken = (Set<?>) call(loader, "Sentences", "wrong");
        if (!broken.isEmpty()) {
            fault("the class itself breaks " + broken);
        }
        for (Object name : (Set<?>) call(loader, "Sentences", "tested")) {
            if (!hasMutant((String) name)) {
                fault("no mutant breaks " + name);
            }
        }
    }

    private static boolean hasMutant(String name) {
        for (MutantList.Mutant mutant : MutantList.all()) {
            if (name.startsWith(mutant.name())) {
                return true;
            }
        }
        return false;
    }

    private void check(MutantList.Mutant mutant) throws ReflectiveOperationException {
        made++;
        int at = source.indexOf(mutant.text());
        if (at < 0 || source.indexOf(mutant.text(), at + 1) >= 0) {
            fault("not once in the source: " + mutant.text());
            return;
        }
        String other = source.substring(0, at) + mutant.other() + source.substring(at + mutant.text().length());
        if (!breaks(other, mutant.name())) {
            fault(mutant.name() + "\" would still hold, says its test, with " + mutant.other() + " in the place of " + mutant.text());
        }
    }

    private boolean breaks(String text, String sentence) throws ReflectiveOperationException {
        Loader loader = load(text);
        Method only = loader.loadClass("Sentences").getDeclaredMethod("only", String.class);
        only.setAccessible(true);
        only.invoke(null, sentence);
        call(loader, "Boundaries", "testAll");
        return !((Set<?>) call(loader, "Sentences", "wrong")).isEmpty();
    }

    /** The tests of the sentences, with the class that this text tells. */
    private Loader load(String text) {
        Map<String, byte[]> classes = new HashMap<>(tests);
        classes.putAll(compile(List.of(new Text(text))));
        return new Loader(classes);
    }

    private static Object call(ClassLoader loader, String className, String name) throws ReflectiveOperationException {
        Method method = loader.loadClass(className).getDeclaredMethod(name);
        method.setAccessible(true);
        return method.invoke(null);
    }

    // ---- compiling in memory

    private static List<JavaFileObject> testFiles() {
        List<JavaFileObject> all = new ArrayList<>();
        for (JavaFileObject file : FILES.getJavaFileObjects(new File(SOURCE), new File("src/test/java/Boundaries.java"),
            new File("src/test/sentences/Sentences.java"), new File("src/test/sentences/DescriptionSentences.java"),
            new File("src/test/sentences/GraphSentences.java"), new File("src/test/sentences/DeckSentences.java"))) {
            all.add(file);
        }
        return all;
    }

    private static Map<String, byte[]> compile(List<? extends JavaFileObject> files) {
        StringWriter said = new StringWriter();
        Memory memory = new Memory(FILES);
        if (!COMPILER.getTask(said, memory, null, List.of("-proc:none"), null, files).call()) {
            throw new IllegalStateException("does not compile: " + said);
        }
        return memory.bytes();
    }

    private static final class Text extends SimpleJavaFileObject {
        private final String text;

        Text(String text) {
            super(URI.create("string:///GraphDeck.java"), Kind.SOURCE);
            this.text = text;
        }

        @Override
        public CharSequence getCharContent(boolean ignoreEncodingErrors) {
            return text;
        }
    }

    private static final class Memory extends ForwardingJavaFileManager<JavaFileManager> {
        private final Map<String, ByteArrayOutputStream> written = new HashMap<>();

        Memory(JavaFileManager files) {
            super(files);
        }

        @Override
        public JavaFileObject getJavaFileForOutput(Location location, String name, JavaFileObject.Kind kind, FileObject near) {
            return new SimpleJavaFileObject(URI.create("memory:///" + name + ".class"), kind) {
                @Override
                public OutputStream openOutputStream() {
                    ByteArrayOutputStream out = new ByteArrayOutputStream();
                    written.put(name, out);
                    return out;
                }
            };
        }

        Map<String, byte[]> bytes() {
            Map<String, byte[]> all = new HashMap<>();
            for (Map.Entry<String, ByteArrayOutputStream> entry : written.entrySet()) {
                all.put(entry.getKey(), entry.getValue().toByteArray());
            }
            return all;
        }
    }

    /** Loads the classes that it is given, and none of this test's own. */
    private static final class Loader extends ClassLoader {
        private final Map<String, byte[]> classes;

        Loader(Map<String, byte[]> classes) {
            super(ClassLoader.getPlatformClassLoader());
            this.classes = classes;
        }

        @Override
        protected Class<?> findClass(String name) throws ClassNotFoundException {
            byte[] bytes = classes.get(name);
            if (bytes == null) {
                throw new ClassNotFoundException(name);
            }
            return defineClass(name, bytes, 0, bytes.length);
        }
    }
}
