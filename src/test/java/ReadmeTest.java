import java.io.IOException;
import java.lang.reflect.Method;
import java.lang.reflect.Modifier;
import java.net.URL;
import java.net.URLClassLoader;
import java.nio.file.Files;
import java.nio.file.Path;
import java.util.ArrayList;
import java.util.List;
import java.util.TreeSet;
import java.util.regex.Matcher;
import java.util.regex.Pattern;
import java.util.stream.Stream;
import javax.tools.JavaCompiler;
import javax.tools.ToolProvider;

/**
 * The examples of README.md: they are compiled as they stand there, and each call answers what is told behind it.
 * Run it from the project's root.
 */
public final class ReadmeTest {
    private static final Pattern BLOCK = Pattern.compile("(?s)```java\n(.*?)```");
    private static final Pattern ANSWERED = Pattern.compile("(desk\\.(\\w+)\\(.*\\)); +// (-?\\d+)(:.*)?");

    private static int wrong = 0;

    private static void due(boolean is, String what) {
        if (!is) {
            wrong++;
            System.out.println("not so: " + what);
        }
    }

    /** A program of all examples: blocks that begin with static stand beside it, the others are one run. */
    private static String program(String readme, TreeSet<String> shown) {
        StringBuilder beside = new StringBuilder();
        StringBuilder run = new StringBuilder();
        Matcher block = BLOCK.matcher(readme);
        while (block.find()) {
            boolean isBeside = block.group(1).startsWith("static ");
            for (String line : block.group(1).split("\n")) {
                (isBeside ? beside : run).append(isBeside ? line : judged(line, shown)).append('\n');
            }
        }
        return "public final class Examples {\n" + beside
            + "static int wrong = 0;\n"
            + "static void due(String call, long got, long want) {\n"
            + "if (got != want) { wrong++; System.out.println(call + \" answered \" + got + \", README tells \" + want); }\n"
            + "}\n"
            + "public static int run() {\n" + run + "return wrong;\n}\n}\n";
    }

    private static String judged(String line, TreeSet<String> shown) {
        Matcher answered = ANSWERED.matcher(line);
        if (!answered.matches()) {
            due(!line.contains("//") && !line.startsWith("desk."), "a call with its answer: " + line);
            return line;
        }
        shown.add(answered.group(2));
        String call = answered.group(1);
        return "due(\"" + call.replace("\"", "\\\"") + "\", " + call + ", " + answered.group(3) + "L);";
    }

    private static void runs(String program) throws IOException, ReflectiveOperationException {
        JavaCompiler compiler = ToolProvider.getSystemJavaCompiler();
        if (compiler == null) {
            due(false, "there is a compiler");
            return;
        }
        Path work = Files.createTempDirectory("readme");
        Path file = work.resolve("Examples.java");
        Files.writeString(file, program);
        String classes = System.getProperty("java.class.path");
        int compiled = compiler.run(null, null, null, "-cp", classes, "-d", work.toString(), file.toString());
        due(compiled == 0, "the examples compile");
        if (compiled == 0) {
            try (URLClassLoader loader = new URLClassLoader(new URL[] {work.toUri().toURL()})) {
                wrong += (int) loader.loadClass("Examples").getMethod("run").invoke(null);
            }
        }
        for (String left : new String[] {"Examples.class", "Examples.java", ""}) {
            Files.deleteIfExists(work.resolve(left));
        }
    }

    private static void showsEachCall(TreeSet<String> shown) {
        for (Method method : ScheduleDesk.class.getDeclaredMethods()) {
            if (Modifier.isPublic(method.getModifiers())) {
                due(shown.contains(method.getName()), "an example of " + method.getName());
            }
        }
    }

    private static void listsEachTest(String readme) throws IOException {
        List<String> rows = new ArrayList<>();
        Matcher row = Pattern.compile("(?m)^\\| `(\\w+Test)` \\|").matcher(readme);
        while (row.find()) {
            rows.add(row.group(1));
        }
        List<String> tests = new ArrayList<>();
        try (Stream<Path> files = Files.list(Path.of("src/test/java"))) {
            files.forEach(file -> tests.add(file.getFileName().toString().replace(".java", "")));
        }
        due(new TreeSet<>(rows).equals(new TreeSet<>(tests)), "a row for each test: " + rows + " of " + tests);
    }

    public static void main(String[] args) throws IOException, ReflectiveOperationException {
        String readme = Files.readString(Path.of("README.md"));
        TreeSet<String> shown = new TreeSet<>();
        String program = program(readme, shown);
        runs(program);
        showsEachCall(shown);
        listsEachTest(readme);
        System.out.println(wrong == 0 ? "README tells of " + shown.size() + " calls" : wrong + " things are not so");
        if (wrong != 0) {
            System.exit(1);
        }
    }
}
