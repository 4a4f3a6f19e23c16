import java.io.IOException;
import java.lang.reflect.Constructor;
import java.lang.reflect.Field;
import java.lang.reflect.Method;
import java.lang.reflect.Modifier;
import java.nio.file.Files;
import java.nio.file.Path;
import java.util.Arrays;
import java.util.TreeSet;
import java.util.regex.Matcher;
import java.util.regex.Pattern;

/** The public face is the document's and no more, and the source keeps to the language's plainest rules. */
public final class FaceTest {
    private static final Check CHECK = new Check();
    private static final String[] FACE = {
        "feed(int,int,int,int,int)", "program(int)", "tests(int)", "node(int,int)", "test(int,int)", "run(int,int)",
        "done(int,int)", "trace(int,int)", "spectrum(int,int)", "score(int,int,int)", "suspect(int,int)", "changes(int)",
        "change(int,int,int)", "mend(int,int)", "unlike()", "best()", "pair(int)", "values(int,int)", "forced(int,boolean)",
        "flip(int)", "take(int,int)", "undo()", "count(int)"};

    public static void main(String[] args) throws IOException {
        methods();
        fields();
        classes();
        source(Files.readString(Path.of(args.length > 0 ? args[0] : ".", "src/main/java/ProgramMender.java")));
        CHECK.end();
    }

    private static void say(String what, boolean holds) {
        CHECK.due(what, holds ? 1 : 0, 1);
    }

    private static void methods() {
        TreeSet<String> due = new TreeSet<>(Arrays.asList(FACE));
        TreeSet<String> names = new TreeSet<>();
        for (String method : FACE) {
            names.add(method.substring(0, method.indexOf('(')));
        }
        for (Method method : ProgramMender.class.getDeclaredMethods()) {
            if (method.isSynthetic()) {
                continue;
            }
            String parameters = String.join(",", Arrays.stream(method.getParameterTypes()).map(Class::getName).toList());
            String told = method.getName() + "(" + parameters + ")";
            if (Modifier.isPrivate(method.getModifiers())) {
                say("no private method is named as a public one: " + told, !names.contains(method.getName()));
            } else {
                say("of the face: " + told, due.remove(told));
                say("public, of the object: " + told, method.getModifiers() == Modifier.PUBLIC);
                say("answers an int: " + told, method.getReturnType() == int.class);
            }
        }
        say("nothing is missing: " + due, due.isEmpty());
    }

    private static void fields() {
        CHECK.due("NONE", ProgramMender.NONE, -1);
        for (Field field : ProgramMender.class.getDeclaredFields()) {
            int is = field.getModifiers();
            say("private: " + field.getName(), Modifier.isPrivate(is) || field.getName().equals("NONE"));
            say("no static state: " + field.getName(), !Modifier.isStatic(is) || Modifier.isFinal(is));
        }
        Constructor<?>[] constructors = ProgramMender.class.getConstructors();
        CHECK.due("constructors", constructors.length, 1);
        CHECK.due("without arguments", constructors[0].getParameterCount(), 0);
        CHECK.due("final and public", ProgramMender.class.getModifiers(), Modifier.FINAL | Modifier.PUBLIC);
    }

    private static void classes() {
        Class<?>[] inside = ProgramMender.class.getDeclaredClasses();
        say("at most twelve classes", inside.length + 1 <= 12);
        for (Class<?> one : inside) {
            say("private and static: " + one.getName(), Modifier.isPrivate(one.getModifiers()) && Modifier.isStatic(one.getModifiers()));
            long fields = Arrays.stream(one.getDeclaredFields()).filter(f -> !Modifier.isStatic(f.getModifiers())).count();
            say("at most twenty fields: " + one.getName(), fields <= 20);
            for (Method method : one.getDeclaredMethods()) {
                say("at most seven parameters: " + method.getName(), method.getParameterCount() <= 7);
            }
        }
    }

    private static void source(String text) {
        String[] refused = {"\\btry\\b", "\\bcatch\\b", "\\bfinally\\b", "->", "::", "\\bsynchronized\\b", "\\bassert\\b",
            "Exact\\(", "\\bprotected\\b", "\\binstanceof\\b", "\\bstatic \\{", "\\bdouble\\b", "\\bfloat\\b", "\\bpackage\\b"};
        for (String one : refused) {
            say("not in the source: " + one, !Pattern.compile(one).matcher(text).find());
        }
        Matcher imports = Pattern.compile("import ([^;]+);").matcher(text);
        while (imports.find()) {
            say("import " + imports.group(1), imports.group(1).matches("java\\.util\\.(Arrays|NoSuchElementException)"));
        }
        Matcher thrown = Pattern.compile("throw new (\\w+)").matcher(text);
        while (thrown.find()) {
            say("thrown: " + thrown.group(1), thrown.group(1).equals("NoSuchElementException"));
        }
    }
}
