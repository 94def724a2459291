import java.io.IOException;
import java.net.URL;
import java.net.URLClassLoader;
import java.nio.file.Files;
import java.nio.file.Path;
import java.util.ArrayList;
import java.util.Comparator;
import java.util.List;
import java.util.regex.Matcher;
import java.util.regex.Pattern;
import java.util.stream.Stream;
import javax.tools.JavaCompiler;
import javax.tools.ToolProvider;

/** The README's example, compiled and run: each call answers what is written behind it. */
public final class ReadmeTest {
    private static final Pattern CALL = Pattern.compile("x\\.\\w+\\(.*\\);.*");
    private static final Pattern CALL_WITH_ANSWER = Pattern.compile("(x\\.\\w+\\(.*\\));\\s+// (-?\\d+|true|false)(:.*)?");

    private ReadmeTest() {
    }

    private static List<String> examples(String readme) {
        List<String> all = new ArrayList<>();
        Matcher matcher = Pattern.compile("(?s)```java\n(.*?)```").matcher(readme);
        while (matcher.find()) {
            all.add(matcher.group(1));
        }
        return all;
    }

    /** A call and the answer behind it become two things to be compared; all else stays as it is written. */
    private static String asked(String line) {
        Matcher matcher = CALL_WITH_ANSWER.matcher(line);
        if (matcher.matches()) {
            String call = matcher.group(1);
            return "all.add(new Object[] {\"" + call.replace("\"", "\\\"") + "\", " + call + ", " + matcher.group(2) + "});";
        }
        Desk.due("an answer stands behind " + line, CALL.matcher(line).matches(), false);
        return line;
    }

    private static String program(List<String> examples) {
        StringBuilder helpers = new StringBuilder();
        StringBuilder steps = new StringBuilder();
        for (String example : examples) {
            if (example.startsWith("static ")) {
                helpers.append(example);
            } else {
                example.lines().forEach(line -> steps.append(asked(line)).append('\n'));
            }
        }
        return "public final class Example {\n" + helpers + "public static java.util.List<Object[]> answers() {\n"
            + "java.util.List<Object[]> all = new java.util.ArrayList<>();\n" + steps + "return all;\n}\n}\n";
    }

    private static void run(Path folder, String program) throws IOException, ReflectiveOperationException {
        Path file = Files.writeString(folder.resolve("Example.java"), program);
        JavaCompiler compiler = ToolProvider.getSystemJavaCompiler();
        int failed = compiler.run(null, null, null, "-cp", System.getProperty("java.class.path"), "-d", folder.toString(),
            file.toString());
        Desk.due("the README's example compiles", failed, 0);
        if (failed != 0) {
            return;
        }
        try (URLClassLoader loader = new URLClassLoader(new URL[] {folder.toUri().toURL()})) {
            Object answers = loader.loadClass("Example").getMethod("answers").invoke(null);
            int calls = 0;
            for (Object one : (List<?>) answers) {
                Object[] row = (Object[]) one;
                Desk.due("README: " + row[0] + " answers " + row[1] + ", not " + row[2], row[1].equals(row[2]), true);
                calls++;
            }
            Desk.due("the example asks something", calls > 0, true);
        }
    }

    private static void clear(Path folder) throws IOException {
        try (Stream<Path> files = Files.walk(folder)) {
            for (Path file : files.sorted(Comparator.reverseOrder()).toList()) {
                Files.delete(file);
            }
        }
    }

    public static void main(String[] args) throws IOException, ReflectiveOperationException {
        String readme = Files.readString(Path.of("README.md"));
        Desk.due("it says how tests are run", readme.contains(".ci/run"), true);
        Path folder = Files.createTempDirectory("readme");
        try {
            run(folder, program(examples(readme)));
        } finally {
            clear(folder);
        }
        try (Stream<Path> tests = Files.list(Path.of("src/test/java"))) {
            for (Path test : tests.sorted().toList()) {
                String name = test.getFileName().toString().replace(".java", "");
                Desk.due("it names " + name, !name.endsWith("Test") || readme.contains("`" + name + "`"), true);
            }
        }
        Desk.close("ReadmeTest");
    }
}
