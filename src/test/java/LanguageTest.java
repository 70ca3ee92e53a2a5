import java.io.IOException;
import java.lang.reflect.Constructor;
import java.lang.reflect.Field;
import java.lang.reflect.Method;
import java.lang.reflect.Modifier;
import java.nio.charset.StandardCharsets;
import java.nio.file.Files;
import java.nio.file.Path;
import java.util.Arrays;
import java.util.List;
import java.util.Set;
import java.util.TreeSet;

/** What of ../shared/LANGUAGE.md can be seen by reflection or in the plain text of the program. */
public final class LanguageTest {
    private static final Bench b = new Bench();
    private static final Set<String> FACE = new TreeSet<>(Arrays.asList("feed", "end", "program", "fault", "sizes",
            "walk", "way", "went", "along", "least", "may", "law", "cover", "coverAt", "alike", "safe", "unsafe",
            "rule", "rounds", "laws", "lawAt", "hangs", "reach", "mend", "mended", "claim", "holds", "proof",
            "proofAt", "check", "run", "got", "count"));

    public static void main(String[] args) throws IOException {
        face();
        classes();
        text();
        objectsMade();
        b.finish();
    }

    private static void face() throws IOException {
        Set<String> found = new TreeSet<>();
        for (Method method : AllWays.class.getDeclaredMethods()) {
            if (Modifier.isPublic(method.getModifiers())) {
                found.add(method.getName());
            } else {
                b.due(method + " is private", Modifier.isPrivate(method.getModifiers()), true);
                b.due(method + " bears no name of the face", FACE.contains(method.getName()), false);
            }
        }
        b.due("the face is " + found, found.equals(FACE), true);
        for (Field field : AllWays.class.getDeclaredFields()) {
            boolean open = field.getName().equals("NONE");
            b.due(field + " is as told", open ? Modifier.isPublic(field.getModifiers())
                    : Modifier.isPrivate(field.getModifiers()), true);
        }
        Constructor<?>[] constructors = AllWays.class.getDeclaredConstructors();
        b.due("constructors", constructors.length, 1);
        b.due("final", Modifier.isFinal(AllWays.class.getModifiers()), true);
        b.close("LANGUAGE 1: the face");
    }

    private static void classes() {
        Class<?>[] inside = AllWays.class.getDeclaredClasses();
        b.due("classes", inside.length <= 12, true);
        for (Class<?> c : inside) {
            b.due(c + " is static", Modifier.isStatic(c.getModifiers()), true);
            b.due(c + " is not public", Modifier.isPublic(c.getModifiers()), false);
            oneClass(c);
        }
        oneClass(AllWays.class);
        b.close("LANGUAGE 2, 5, 11: classes, fields and parameters");
    }

    private static void oneClass(Class<?> c) {
        int fields = 0;
        for (Field field : c.getDeclaredFields()) {
            boolean isStatic = Modifier.isStatic(field.getModifiers());
            b.due(field + " is no static state", isStatic && !Modifier.isFinal(field.getModifiers()), false);
            fields += isStatic ? 0 : 1;
        }
        b.due("fields of " + c + ": " + fields, fields <= 20, true);
        for (Method method : c.getDeclaredMethods()) {
            b.due("parameters of " + method, method.getParameterCount() <= 7, true);
        }
    }

    private static void text() throws IOException {
        List<String> lines = Files.readAllLines(Path.of("src/main/java/AllWays.java"), StandardCharsets.UTF_8);
        int from = -1;
        for (int i = 0; i < lines.size(); i++) {
            String line = lines.get(i);
            for (String banned : new String[] {"->", "::", "\\btry\\b", "\\bcatch\\b", "\\bfinally\\b", "\\bassert\\b",
                "synchronized", "instanceof", "System\\.(?!arraycopy)", "Exact\\(", "\\bfloat\\b", "\\bdouble\\b",
                "\\bstatic \\{", "[^\\x00-\\x7f]", "\\bpackage\\b", "\\bvar\\b"}) {
                b.due("line " + (i + 1) + " has " + banned, line.replaceAll("^ *(//|/?\\*).*", "")
                        .matches(".*" + banned + ".*"), false);
            }
            boolean isImport = line.startsWith("import");
            b.due(line, isImport && !line.equals("import java.util.NoSuchElementException;"), false);
            if (line.matches(" {4,8}\\S.*\\) (throws \\w+ )?\\{")) {
                from = i;
            }
            if (line.matches(" {4,8}\\}") && from >= 0) {
                b.due("method of line " + (from + 1) + " is short", i - from <= 60, true);
                from = -1;
            }
        }
        b.close("LANGUAGE 3, 4, 6, 10, 11: the text");
    }

    /** No call makes arrays or objects: what a thread has allocated stays the same, or nearly so. */
    private static void objectsMade() {
        com.sun.management.ThreadMXBean bean = (com.sun.management.ThreadMXBean) java.lang.management.ManagementFactory
                .getThreadMXBean();
        AllWays x = new AllWays();
        long made = 0;
        for (int round = 0; round < 3; round++) {
            Bench.tape(x, "proc p{while b<a{b=b+1;}}ask c;call p;must b<5 or c=1;cell[a]=b/(c+1);h=cell[2];");
            long before = bean.getThreadAllocatedBytes(Thread.currentThread().getId());
            x.program(0);
            x.walk(0, 40);
            x.cover();
            x.laws(1);
            x.alike(0, 1, 40);
            x.safe(0, 40);
            x.rule(0, 40);
            x.hangs(0, 0, 40);
            x.mend(0, 40);
            x.run(0, 3, 40);
            x.holds();
            x.proof();
            made = bean.getThreadAllocatedBytes(Thread.currentThread().getId()) - before;
        }
        b.due("bytes made by twelve calls: " + made, made < 2000, true);
        b.close("LANGUAGE 12: what a run makes");
    }
}
