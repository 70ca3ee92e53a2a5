import java.io.IOException;
import java.lang.reflect.Method;
import java.nio.charset.StandardCharsets;
import java.nio.file.Files;
import java.nio.file.Path;
import java.util.ArrayList;
import java.util.List;
import java.util.Set;
import java.util.TreeSet;
import java.util.regex.Matcher;
import java.util.regex.Pattern;
import javax.tools.ToolProvider;

/** README.md as it stands: its Java is compiled and run, and each answer that it gives behind a call is looked at. */
public final class ReadmeTest {
    private static final Bench b = new Bench();
    private static final Path PLACE = Path.of("build", "readme");
    private static final Pattern ANSWERED = Pattern.compile(
            "(ways\\.(\\w+)\\(.*\\)); +// (-?\\d+|NONE|true|false|throws NoSuchElementException)(: \\S.*)?");
    private static final Pattern CALL = Pattern.compile("ways\\.(\\w+)\\(");

    /** The statements of the page, in order, with a look at each answer. */
    private static final List<String> statements = new ArrayList<>();
    private static final List<String> helpers = new ArrayList<>();
    private static final Set<String> shown = new TreeSet<>();

    public static void main(String[] args) throws Exception {
        List<String> page = Files.readAllLines(Path.of("README.md"), StandardCharsets.UTF_8);
        readCalls(page);
        b.close("README.md: each call that is shown has an answer behind it");
        wholeFace();
        b.close("README.md: each method of the face is shown");
        runCalls();
        b.close("README.md: the calls answer as the page says");
        tests(page);
        b.close("README.md: it names each test of the project, and none else");
        b.finish();
    }

    private static void readCalls(List<String> page) {
        boolean inside = false;
        List<String> block = new ArrayList<>();
        for (String line : page) {
            if (inside && line.equals("```")) {
                takeBlock(block);
                inside = false;
                block.clear();
            } else if (inside) {
                block.add(line);
            } else if (line.equals("```java")) {
                inside = true;
            }
        }
        b.due("the last block is closed", inside, false);
    }

    private static void takeBlock(List<String> block) {
        if (block.get(0).startsWith("static ")) {
            helpers.addAll(block);
            return;
        }
        for (String line : block) {
            Matcher answered = ANSWERED.matcher(line);
            if (answered.matches()) {
                shown.add(answered.group(2));
                statements.add(look(answered.group(1), answered.group(3)));
            } else {
                b.due("no answer behind: " + line, CALL.matcher(line).find(), false);
                statements.add(line);
            }
        }
    }

    private static String look(String call, String answer) {
        String name = "\"" + call.replace("\\", "\\\\").replace("\"", "\\\"") + "\"";
        if (answer.startsWith("throws ")) {
            return "try { bench.due(" + name + " + \" (answered, and threw nothing)\", " + call + ", Long.MIN_VALUE); }"
                    + " catch (java.util.NoSuchElementException e) { bench.due(" + name + ", 1, 1); }";
        }
        return "bench.due(" + name + ", " + call + ", " + (answer.equals("NONE") ? "AllWays.NONE" : answer) + ");";
    }

    private static void wholeFace() {
        Set<String> face = new TreeSet<>();
        for (Method method : AllWays.class.getMethods()) {
            if (method.getDeclaringClass() == AllWays.class) {
                face.add(method.getName());
            }
        }
        for (String name : face) {
            b.due(name + "() is shown with its answer", shown.contains(name), true);
        }
        b.due("methods shown", shown.size(), face.size());
    }

    private static void runCalls() throws Exception {
        Files.createDirectories(PLACE);
        Path source = PLACE.resolve("ReadmeCalls.java");
        List<String> lines = new ArrayList<>();
        lines.add("public final class ReadmeCalls {");
        lines.addAll(helpers);
        lines.add("public static void run(Bench bench) {");
        lines.addAll(statements);
        lines.add("}");
        lines.add("}");
        Files.write(source, lines, StandardCharsets.UTF_8);
        // Bench and its methods are open to the package alone: the page's class has to be loaded beside them.
        int failed = ToolProvider.getSystemJavaCompiler().run(null, System.out, System.out, "-encoding", "UTF-8",
                "-cp", System.getProperty("java.class.path"), "-d", ownPlace().toString(), source.toString());
        b.due("errors when the page's Java is compiled", failed, 0);
        if (failed == 0) {
            Class.forName("ReadmeCalls").getMethod("run", Bench.class).invoke(null, b);
        }
    }

    private static Path ownPlace() throws Exception {
        return Path.of(ReadmeTest.class.getProtectionDomain().getCodeSource().getLocation().toURI());
    }

    private static void tests(List<String> page) throws IOException {
        Set<String> named = new TreeSet<>();
        for (String line : page) {
            Matcher name = Pattern.compile("`(\\w+Test)`").matcher(line);
            while (name.find()) {
                named.add(name.group(1));
            }
        }
        Set<String> found = new TreeSet<>();
        try (var files = Files.list(Path.of("src", "test", "java"))) {
            files.map(file -> file.getFileName().toString()).filter(name -> name.endsWith("Test.java"))
                    .forEach(name -> found.add(name.replace(".java", "")));
        }
        b.due("tests named", named.toString(), found.toString());
    }
}
