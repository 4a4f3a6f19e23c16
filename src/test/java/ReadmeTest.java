import java.io.IOException;
import java.lang.reflect.Method;
import java.net.URL;
import java.net.URLClassLoader;
import java.nio.file.Files;
import java.nio.file.Path;
import java.util.ArrayList;
import java.util.Arrays;
import java.util.Comparator;
import java.util.List;
import java.util.TreeSet;
import java.util.regex.Matcher;
import java.util.regex.Pattern;
import java.util.stream.Stream;

/** What README.md says holds: its examples answer as they say, its commands and tables name what there is. */
public final class ReadmeTest {
    private static final Check CHECK = new Check();
    private static final Pattern EXAMPLE = Pattern.compile("```java\n(.*?)```", Pattern.DOTALL);
    private static final Pattern ANSWERED = Pattern.compile("(int \\w+ = )?(.+?); +// (-?[0-9]+)\\b.*");

    public static void main(String[] args) throws Exception {
        Path root = Path.of(args.length > 0 ? args[0] : ".");
        String text = Files.readString(root.resolve("README.md"));
        examples(text);
        tests(text, root);
        calls(text);
        commands(text, root);
        rounds(text, root);
        CHECK.end();
    }

    private static void say(String what, boolean holds) {
        CHECK.due(what, holds ? 1 : 0, 1);
    }

    private static TreeSet<String> found(String pattern, String text) {
        TreeSet<String> names = new TreeSet<>();
        Matcher matcher = Pattern.compile(pattern).matcher(text);
        while (matcher.find()) {
            names.add(matcher.group(1));
        }
        return names;
    }

    // ---- examples

    private static void examples(String text) throws Exception {
        Matcher matcher = EXAMPLE.matcher(text);
        int many = 0;
        while (matcher.find()) {
            many++;
            example("Example" + many, matcher.group(1));
        }
        CHECK.due("examples", many, 2);
    }

    /** Each line with a number behind it becomes an answer to be looked at; all others stay as they are. */
    private static void example(String name, String lines) throws Exception {
        StringBuilder source = new StringBuilder("public class " + name + " { public static int[] answers() { int[] row = new int[99];\n");
        List<String> calls = new ArrayList<>();
        List<Integer> due = new ArrayList<>();
        for (String line : lines.split("\n")) {
            Matcher answered = ANSWERED.matcher(line);
            if (answered.matches()) {
                String named = answered.group(1) == null ? "" : answered.group(1);
                source.append(named + "row[" + due.size() + "] = " + answered.group(2) + ";\n");
                calls.add(answered.group(2));
                due.add(Integer.parseInt(answered.group(3)));
            } else {
                say("a comment begins with the answer: " + line, !line.contains("//"));
                source.append(line).append("\n");
            }
        }
        source.append("return row; } }\n");
        int[] answers = answers(name, source.toString());
        for (int i = 0; i < due.size(); i++) {
            CHECK.due(name + ": " + calls.get(i), answers[i], due.get(i));
        }
        say(name + " has answers", due.size() > 3);
    }

    private static int[] answers(String name, String source) throws Exception {
        Path directory = Files.createTempDirectory("readme");
        try {
            Path file = Files.writeString(directory.resolve(name + ".java"), source);
            Process javac = new ProcessBuilder("javac", "-cp", System.getProperty("java.class.path"),
                    "-d", directory.toString(), file.toString()).inheritIO().start();
            CHECK.due(name + " compiles", javac.waitFor(), 0);
            try (URLClassLoader loader = new URLClassLoader(new URL[] {directory.toUri().toURL()})) {
                Method method = loader.loadClass(name).getMethod("answers");
                return (int[]) method.invoke(null);
            }
        } finally {
            remove(directory);
        }
    }

    private static void remove(Path directory) throws IOException {
        try (Stream<Path> all = Files.walk(directory)) {
            for (Path path : all.sorted(Comparator.reverseOrder()).toList()) {
                Files.delete(path);
            }
        }
    }

    // ---- tables, commands

    private static void tests(String text, Path root) throws IOException {
        TreeSet<String> there = new TreeSet<>();
        try (Stream<Path> files = Files.list(root.resolve("src/test/java"))) {
            files.map(f -> f.getFileName().toString()).filter(n -> n.endsWith("Test.java"))
                    .forEach(n -> there.add(n.substring(0, n.length() - ".java".length())));
        }
        TreeSet<String> told = found("(?m)^\\| (\\w+Test) \\|", text);
        say("the tests that are told: " + told + ", that are there: " + there, told.equals(there));
    }

    private static void calls(String text) {
        String table = text.substring(text.indexOf("| calls |"), text.indexOf("What is refused"));
        TreeSet<String> face = new TreeSet<>();
        Arrays.stream(ProgramMender.class.getMethods()).filter(m -> m.getDeclaringClass() == ProgramMender.class)
                .forEach(m -> face.add(m.getName()));
        TreeSet<String> told = found("`(\\w+)`", table);
        say("the calls that are told: " + told + ", that are there: " + face, told.equals(face));
    }

    private static void commands(String text, Path root) {
        say("bash .ci/run is told", text.contains("\n    bash .ci/run\n"));
        say(".ci/run can be run", Files.isExecutable(root.resolve(".ci/run")));
        for (String file : found("[ `]((?:src|\\.ci)/[\\w/.]+)", text)) {
            say(file + " is there", Files.exists(root.resolve(file)));
        }
        TreeSet<String> started = found("java -cp build (\\w+)", text);
        say("some tests are started", !started.isEmpty());
        for (String test : started) {
            say(test + " is there", Files.exists(root.resolve("src/test/java/" + test + ".java")));
        }
    }

    /** Once RandomTest failed for some numbers of rounds, 20 and 400 among them, with every answer as due. */
    private static void rounds(String text, Path root) throws Exception {
        say("rounds are told", text.contains("`java -cp build RandomTest . 2000` for more rounds"));
        for (String rounds : new String[] {"20", "400"}) {
            Process java = new ProcessBuilder("java", "-cp", System.getProperty("java.class.path"), "RandomTest", root.toString(), rounds)
                    .redirectErrorStream(true).start();
            String told = new String(java.getInputStream().readAllBytes());
            CHECK.due("RandomTest . " + rounds + " says " + told, java.waitFor(), 0);
        }
    }
}
