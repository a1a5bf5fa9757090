import java.io.ByteArrayOutputStream;
import java.io.IOException;
import java.io.OutputStream;
import java.io.PrintStream;
import java.io.StringWriter;
import java.lang.reflect.Field;
import java.lang.reflect.Method;
import java.net.URI;
import java.nio.file.Files;
import java.nio.file.Path;
import java.util.ArrayList;
import java.util.HashMap;
import java.util.List;
import java.util.Map;
import java.util.Set;
import java.util.concurrent.ExecutorService;
import java.util.concurrent.Executors;
import java.util.concurrent.Future;
import javax.tools.FileObject;
import javax.tools.ForwardingJavaFileManager;
import javax.tools.JavaCompiler;
import javax.tools.JavaFileObject;
import javax.tools.SimpleJavaFileObject;
import javax.tools.StandardJavaFileManager;
import javax.tools.ToolProvider;

/**
 * Whether the test of a sentence would fail if the sentence were broken: each change of mutants.txt is
 * made to the class by itself, and only the test of its own sentence runs. By hand, not in .ci/run:
 * java -cp (classes of all) Mutants (the directory of the tests' classes)
 */
public final class Mutants {
    private static final Path CLASS = Path.of("src/main/java/HingeTown.java");
    private static final Path CHANGES = Path.of("src/test/mutants.txt");
    private static final JavaCompiler COMPILER = ToolProvider.getSystemJavaCompiler();

    private record Change(String sentence, String behind, String old, String by) { }

    private static final class Source extends SimpleJavaFileObject {
        private final String text;

        Source(String text) {
            super(URI.create("string:///HingeTown.java"), Kind.SOURCE);
            this.text = text;
        }

        @Override public CharSequence getCharContent(boolean ignored) {
            return text;
        }
    }

    private static final class Memory extends ForwardingJavaFileManager<StandardJavaFileManager> {
        private final Map<String, ByteArrayOutputStream> made = new HashMap<>();

        Memory() {
            super(COMPILER.getStandardFileManager(null, null, null));
        }

        @Override public JavaFileObject getJavaFileForOutput(Location where, String name, JavaFileObject.Kind kind, FileObject by) {
            ByteArrayOutputStream bytes = new ByteArrayOutputStream();
            made.put(name, bytes);
            return new SimpleJavaFileObject(URI.create("memory:///" + name), kind) {
                @Override public OutputStream openOutputStream() {
                    return bytes;
                }
            };
        }
    }

    /** The changed class, and the tests anew, so that no counter is shared between two changes. */
    private static final class Loader extends ClassLoader {
        private final Map<String, ByteArrayOutputStream> made;
        private final Path tests;

        Loader(Map<String, ByteArrayOutputStream> made, Path tests) {
            super(ClassLoader.getPlatformClassLoader());
            this.made = made;
            this.tests = tests;
        }

        @Override protected Class<?> findClass(String name) throws ClassNotFoundException {
            try {
                byte[] bytes = made.containsKey(name) ? made.get(name).toByteArray() : Files.readAllBytes(tests.resolve(name + ".class"));
                return defineClass(name, bytes, 0, bytes.length);
            } catch (IOException e) {
                throw new ClassNotFoundException(name, e);
            }
        }
    }

    private static List<Change> changes() throws IOException {
        List<Change> all = new ArrayList<>();
        String[] last = new String[3];
        for (String line : Files.readAllLines(CHANGES)) {
            String words = line.length() > 2 ? line.substring(2).replace("|||", "\n") : "";
            int mark = line.isEmpty() ? -1 : "=@-+".indexOf(line.charAt(0));
            if (mark == 3) all.add(new Change(last[0], last[1], last[2], words));
            else if (mark >= 0) last[mark] = words;
        }
        return all;
    }

    private static Map<String, ByteArrayOutputStream> compile(String text) {
        Memory memory = new Memory();
        boolean fine = COMPILER.getTask(new StringWriter(), memory, d -> { }, List.of("-proc:none"), null, List.of(new Source(text))).call();
        return fine ? memory.made : null;
    }

    private static boolean notices(Loader loader, String sentence) throws Exception {
        Class<?> edges = loader.loadClass("Edges");
        Method only = edges.getDeclaredMethod("only", String.class);
        only.setAccessible(true);
        only.invoke(null, sentence);
        Method all = loader.loadClass("EdgeTests").getDeclaredMethod("all");
        all.setAccessible(true);
        boolean[] ended = new boolean[1];
        Thread run = new Thread(() -> {
            try {
                all.invoke(null);
                ended[0] = true;
            } catch (ReflectiveOperationException e) {
                ended[0] = false;
            }
        });
        run.setDaemon(true);
        run.start();
        run.join(20000);
        Field broken = edges.getDeclaredField("BROKEN");
        broken.setAccessible(true);
        return !ended[0] || !((Set<?>) broken.get(null)).isEmpty();
    }

    private static String look(Change c, String text, Path tests) throws Exception {
        int at = text.indexOf(c.old, Math.max(0, text.indexOf(c.behind)));
        if (at < 0 || !text.contains(c.behind)) return "does not fit the class any more";
        Map<String, ByteArrayOutputStream> made = compile(text.substring(0, at) + c.by + text.substring(at + c.old.length()));
        if (made == null) return "can't be compiled";
        return notices(new Loader(made, tests), c.sentence) ? "" : "is not noticed";
    }

    public static void main(String[] args) throws Exception {
        String text = Files.readString(CLASS);
        Path tests = Path.of(args[0]);
        PrintStream out = System.out;
        System.setOut(new PrintStream(OutputStream.nullOutputStream()));
        ExecutorService pool = Executors.newFixedThreadPool(Runtime.getRuntime().availableProcessors());
        List<Change> all = changes();
        List<Future<String>> answers = new ArrayList<>();
        for (Change c : all) answers.add(pool.submit(() -> look(c, text, tests)));
        int fine = 0;
        for (int i = 0; i < all.size(); i++) {
            String answer = answers.get(i).get();
            if (answer.isEmpty()) fine++;
            else out.println(all.get(i) + " " + answer);
        }
        out.println("Mutants: " + fine + " of " + all.size() + " changes are noticed by the test of their own sentence");
        System.exit(fine == all.size() && fine > 0 ? 0 : 1);
    }
}
