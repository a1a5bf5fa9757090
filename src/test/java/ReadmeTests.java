import java.lang.reflect.Method;
import java.lang.reflect.Modifier;
import java.net.URL;
import java.net.URLClassLoader;
import java.nio.file.Files;
import java.nio.file.Path;
import java.util.ArrayList;
import java.util.List;
import java.util.Set;
import java.util.TreeSet;
import java.util.function.Supplier;
import java.util.regex.Matcher;
import java.util.regex.Pattern;
import java.util.stream.Stream;
import javax.tools.ToolProvider;

/**
 * README.md as a program: its Java is compiled as it stands and run on one object, and each call has to
 * answer what is written behind it, so that the page can't tell what the class does not do.
 */
public final class ReadmeTests {
    private static final Path README = Path.of("README.md");
    private static final Path TESTS = Path.of("src/test/java");
    private static final Pattern BLOCK = Pattern.compile("```(\\w+)\n(.*?)```", Pattern.DOTALL);
    /** A call that ends its line but for the answer, and words behind the answer. */
    private static final Pattern ANSWERED = Pattern.compile("(\\S.*\\)); +// (-?\\d+|true|false)\\b.*");
    private static final Check check = new Check();
    private static final List<String> calls = new ArrayList<>();
    private static final List<String> dues = new ArrayList<>();

    private static String quoted(String text) {
        return "\"" + text.replace("\\", "\\\\").replace("\"", "\\\"").replace("\n", "\\n") + "\"";
    }

    private static String statement(String line) {
        Matcher m = ANSWERED.matcher(line);
        if (!m.matches()) return line + "\n";
        calls.add(m.group(1));
        dues.add(m.group(2));
        return "got.add(" + m.group(1) + ");\n";
    }

    private static String program(String page) {
        StringBuilder members = new StringBuilder();
        StringBuilder body = new StringBuilder();
        for (Matcher m = BLOCK.matcher(page); m.find();) {
            String text = m.group(2);
            if (m.group(1).equals("text")) members.append("static final String TOWN = ").append(quoted(text.strip())).append(";\n");
            if (!m.group(1).equals("java")) continue;
            if (text.startsWith("static ")) members.append(text);
            else text.lines().forEach(line -> body.append(statement(line)));
        }
        return "public final class Readme implements java.util.function.Supplier<java.util.List<Object>> {\n" + members
            + "public java.util.List<Object> get() {\njava.util.List<Object> got = new java.util.ArrayList<>();\n" + body
            + "return got;\n}\n}\n";
    }

    private static void delete(Path directory) throws Exception {
        try (Stream<Path> all = Files.list(directory)) {
            for (Path p : all.toList()) Files.delete(p);
        }
        Files.delete(directory);
    }

    private static List<?> run(String program) throws Exception {
        Path directory = Files.createTempDirectory("readme");
        try {
            Path source = Files.writeString(directory.resolve("Readme.java"), program);
            String classes = System.getProperty("java.class.path");
            int failed = ToolProvider.getSystemJavaCompiler().run(null, null, null,
                "-proc:none", "-cp", classes, "-d", directory.toString(), source.toString());
            check.due("README.md is compiled", failed, 0);
            if (failed != 0) return List.of();
            try (URLClassLoader loader = new URLClassLoader(new URL[] {directory.toUri().toURL()})) {
                Object made = loader.loadClass("Readme").getConstructor().newInstance();
                return (List<?>) ((Supplier<?>) made).get();
            }
        } finally {
            delete(directory);
        }
    }

    private static void answers(String page) throws Exception {
        List<?> got = run(program(page));
        check.due("answers", got.size(), dues.size());
        for (int i = 0; i < got.size() && i < dues.size(); i++) {
            check.due(calls.get(i) + " is " + got.get(i) + ", told is " + dues.get(i), got.get(i).toString().equals(dues.get(i)), true);
        }
    }

    private static void allMethodsAreCalled() {
        Set<String> names = new TreeSet<>();
        for (Method m : HingeTown.class.getDeclaredMethods()) {
            if (Modifier.isPublic(m.getModifiers())) names.add(m.getName());
        }
        for (String name : names) {
            check.due(name + " is called", calls.stream().anyMatch(c -> c.startsWith("x." + name + "(")), true);
        }
    }

    private static void allTestsAreNamed(String page) throws Exception {
        try (Stream<Path> files = Files.list(TESTS)) {
            for (Path p : files.toList()) {
                String name = p.getFileName().toString().replace(".java", "");
                check.due(name + " is named", page.contains("`" + name + "`"), true);
            }
        }
        Matcher m = Pattern.compile("java -cp out (?:-D\\S+=\"[^\"]*\" )?(\\w+)").matcher(page);
        while (m.find()) check.due("there is " + m.group(1), Files.exists(TESTS.resolve(m.group(1) + ".java")), true);
    }

    public static void main(String[] args) throws Exception {
        String page = Files.readString(README);
        answers(page);
        allMethodsAreCalled();
        allTestsAreNamed(page);
        check.end("ReadmeTests");
    }
}
