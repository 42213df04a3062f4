import java.io.IOException;
import java.lang.reflect.Method;
import java.lang.reflect.Modifier;
import java.net.URL;
import java.net.URLClassLoader;
import java.nio.file.Files;
import java.nio.file.Path;
import java.util.regex.Matcher;
import java.util.regex.Pattern;
import java.util.stream.Stream;
import javax.tools.ToolProvider;

/** README.md says how to use the class, by an example that answers as it says, and how to run its tests. */
public final class ReadmeTest {
    private static final Path README = Path.of("README.md");
    private static final Path TESTS = Path.of("src/test/java");
    private static final Path OUT = Path.of("build/readme");
    private static final String EXAMPLE = "ReadmeExample";
    private static final Pattern STEP = Pattern.compile("((?:int|long) \\w+ = )?(body\\..*);\\s*// answers (-?\\d+|[A-Z_]+)(:.*)?");

    private static int compared = 0;

    public static void main(String[] args) throws Exception {
        holds("README.md stands", Files.isRegularFile(README));
        if (Files.isRegularFile(README)) {
            String page = Files.readString(README);
            tellsUse(chapter(page, "Use"));
            tellsTests(chapter(page, "Tests"));
        }
        Checks.end();
    }

    private static void holds(String what, boolean isSo) {
        Checks.due(what, isSo ? 1 : 0, 1);
    }

    /** The lines between this heading and the next one; empty if it is missing. */
    private static String chapter(String page, String heading) {
        return found(page, "^## " + heading + "$(.*?)(?=^## |\\z)");
    }

    private static String block(String chapter, String kind) {
        return found(chapter, "^```" + kind + "\n(.*?)^```$");
    }

    private static String found(String page, String pattern) {
        Matcher m = Pattern.compile(pattern, Pattern.MULTILINE | Pattern.DOTALL).matcher(page);
        return m.find() ? m.group(1) : "";
    }

    private static void tellsUse(String chapter) throws Exception {
        String example = block(chapter, "java");
        holds("Use tells to compile the class", block(chapter, "sh").contains(" src/main/java/ThrusterSelector.java "));
        holds("the example makes a body", example.contains("body = new ThrusterSelector();"));
        int steps = 0;
        for (Method m : ThrusterSelector.class.getDeclaredMethods()) {
            if (Modifier.isPublic(m.getModifiers())) {
                holds("the example calls " + m.getName(), example.contains("body." + m.getName() + "("));
                steps++;
            }
        }
        for (String name : new String[] {"NONE", "BAD_INDEX", "BAD_VALUE", "BAD_STATE", "FULL"}) {
            holds("the example shows " + name, example.contains("answers " + name));
        }
        run(comparing(example));
        holds("the example tells at least as many answers as there are methods", compared >= steps);
    }

    private static void tellsTests(String chapter) throws IOException {
        holds("Tests tells to run .ci/run", block(chapter, "sh").contains(".ci/run"));
        holds("Tests names ../shared/tests", chapter.contains("../shared/tests"));
        try (Stream<Path> files = Files.list(TESTS)) {
            for (Path file : files.toList()) {
                String name = file.getFileName().toString().replace(".java", "");
                holds("Tests names " + name, !name.endsWith("Test") || chapter.contains("`" + name + "`"));
            }
        }
    }

    /** The example as a program: a line that tells an answer is made to compare it, any other is taken as it is. */
    private static String comparing(String example) {
        StringBuilder code = new StringBuilder("public class " + EXAMPLE + " {\n    public static void run() {\n");
        for (String line : example.split("\n")) {
            Matcher step = STEP.matcher(line);
            if (step.matches()) {
                String declared = step.group(1) == null ? "" : step.group(1);
                String due = step.group(3).matches("-?\\d+") ? step.group(3) + "L" : "ThrusterSelector." + step.group(3);
                line = declared + "ReadmeTest.answered(\"" + step.group(2) + "\", " + step.group(2) + ", " + due + ");";
            } else {
                holds("this line can be compared: " + line, !line.contains("// answers"));
            }
            code.append(line).append('\n');
        }
        return code.append("    }\n}\n").toString();
    }

    private static void run(String code) throws Exception {
        Files.createDirectories(OUT);
        Path file = OUT.resolve(EXAMPLE + ".java");
        Files.writeString(file, code);
        String path = System.getProperty("java.class.path");
        int exit = ToolProvider.getSystemJavaCompiler().run(null, null, null, "-cp", path, "-d", OUT.toString(), file.toString());
        Checks.due("javac of the example", exit, 0);
        if (exit == 0) {
            try (URLClassLoader loader = new URLClassLoader(new URL[] {OUT.toUri().toURL()})) {
                loader.loadClass(EXAMPLE).getMethod("run").invoke(null);
            }
        }
    }

    /** The example calls these from a loader of its own, so they are public. */
    public static int answered(String call, int got, long want) {
        return (int) answered(call, (long) got, want);
    }

    public static long answered(String call, long got, long want) {
        compared++;
        Checks.due("README.md: " + call, got, want);
        return got;
    }
}
