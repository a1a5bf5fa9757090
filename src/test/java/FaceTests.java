import java.lang.reflect.Constructor;
import java.lang.reflect.Field;
import java.lang.reflect.Method;
import java.lang.reflect.Modifier;
import java.nio.file.Files;
import java.nio.file.Path;
import java.util.ArrayList;
import java.util.Arrays;
import java.util.List;
import java.util.Set;
import java.util.TreeSet;
import java.util.regex.Matcher;
import java.util.regex.Pattern;

/** The public face as the document has it, and those rules of the language that a text can show. */
public final class FaceTests {
    private static final String FACE = "int feed(int,int,int,int,int)|int end(int)|int town()|int fault(int)|int person(int,int)|"
        + "int meet(int,int)|int light(int,int)|int awake(int,int)|int noise(int,int)|int go(int,int)|int hush(int)|int hour()|"
        + "boolean undo()|boolean redo()|int common(int,int,int)|int can(int)|int never(int)|int dates(int)|int harmed(int,int)|"
        + "int bliss(int)|int cut()|int joy(int,int)|int lonely(int)|int hinges(int)|int loudest(int,int)|int rest()|int shop(int)|"
        + "int post(int,int)|int spread(int,int)|int wake(int,int,int)|int odds(int,int,int)|int lies(int)|int lit(int,int,boolean)|"
        + "boolean untell(int)|int later(int)|int fits(int)|int sure(int,int)|int ask(int,int,int)|int image(int)|int back(int)|int about(int)";
    private static final Check check = new Check();

    private static String signature(Method m) {
        List<String> types = new ArrayList<>();
        for (Class<?> c : m.getParameterTypes()) types.add(c.getName());
        return m.getReturnType().getName() + " " + m.getName() + "(" + String.join(",", types) + ")";
    }

    private static void face() throws Exception {
        Set<String> due = new TreeSet<>(Arrays.asList(FACE.split("\\|")));
        Set<String> names = new TreeSet<>();
        for (String s : due) names.add(s.substring(s.indexOf(' ') + 1, s.indexOf('(')));
        Set<String> got = new TreeSet<>();
        for (Method m : HingeTown.class.getDeclaredMethods()) {
            if (Modifier.isPublic(m.getModifiers())) got.add(signature(m));
            else check.due("private " + m.getName(), Modifier.isPrivate(m.getModifiers()) && !names.contains(m.getName()), true);
        }
        check.due("methods " + got, got.equals(due), true);
        for (Field f : HingeTown.class.getDeclaredFields()) {
            boolean none = f.getName().equals("NONE") && f.getModifiers() == (Modifier.PUBLIC | Modifier.STATIC | Modifier.FINAL);
            check.due("field " + f.getName(), none || Modifier.isPrivate(f.getModifiers()), true);
        }
        check.due("NONE", HingeTown.class.getField("NONE").getInt(null), -1);
        Constructor<?>[] made = HingeTown.class.getDeclaredConstructors();
        check.due("constructors", made.length, 1);
        check.due("public constructor", Modifier.isPublic(made[0].getModifiers()) && made[0].getParameterCount() == 0, true);
        check.due("final", Modifier.isFinal(HingeTown.class.getModifiers()), true);
        Class<?>[] inside = HingeTown.class.getDeclaredClasses();
        check.due("classes", inside.length <= 12, true);
        for (Class<?> c : inside) {
            check.due("static " + c, Modifier.isStatic(c.getModifiers()) && !Modifier.isPublic(c.getModifiers()), true);
            for (Method m : c.getDeclaredMethods()) check.due("name of " + m, names.contains(m.getName()), false);
            long fields = Arrays.stream(c.getDeclaredFields()).filter(f -> !Modifier.isStatic(f.getModifiers())).count();
            check.due("fields of " + c, fields <= 20, true);
        }
    }

    /** The row above is the document's own: each line of its face, without the names of parameters. */
    private static void faceOfTheDocument() throws Exception {
        String all = Files.readString(Path.of("../shared/DOC.md"));
        Set<String> told = new TreeSet<>();
        Matcher m = Pattern.compile("\n    public (int|boolean) (\\w+)\\(([^)]*)\\);").matcher(all);
        while (m.find()) told.add(m.group(1) + " " + m.group(2) + "(" + m.group(3).replaceAll("(\\w+) \\w+", "$1").replace(" ", "") + ")");
        check.due("face of the document " + told, told.equals(new TreeSet<>(Arrays.asList(FACE.split("\\|")))), true);
    }

    private static void text() throws Exception {
        String all = Files.readString(Path.of("src/main/java/HingeTown.java"));
        String code = all.replaceAll("(?s)/\\*.*?\\*/", "").replaceAll("//[^\n]*", "").replaceAll("\"[^\"]*\"", "\"\"");
        for (String word : "throw try catch synchronized assert package record enum float double Random Exact hashCode toString import".split(" ")) {
            int count = 0;
            Matcher m = Pattern.compile("\\b\\w*" + word + "\\b").matcher(code);
            while (m.find()) count++;
            check.due("the word " + word, count, word.equals("import") ? 1 : 0);
        }
        check.due("no lambda", code.contains("->") || code.contains("::"), false);
        Matcher method = Pattern.compile("\n( +)(?:(?:public|private|static) )*\\w[\\w\\[\\]]* \\w+\\(([^)]*)\\) \\{\n(.*?)\n\\1\\}", Pattern.DOTALL).matcher(code);
        int methods = 0;
        while (method.find()) {
            methods++;
            check.due("parameters of" + method.group().lines().skip(1).findFirst().get(), method.group(2).split(",").length <= 7, true);
            check.due("length of" + method.group().lines().skip(1).findFirst().get(), method.group(3).split("\n").length <= 60, true);
        }
        check.due("methods seen", methods > 100, true);
    }

    public static void main(String[] args) throws Exception {
        face();
        faceOfTheDocument();
        text();
        check.end("FaceTests");
    }
}
