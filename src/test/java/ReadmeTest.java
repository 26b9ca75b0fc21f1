import java.io.IOException;
import java.lang.reflect.Method;
import java.lang.reflect.Modifier;
import java.net.URL;
import java.net.URLClassLoader;
import java.nio.file.Files;
import java.nio.file.Path;
import java.util.ArrayList;
import java.util.List;
import java.util.TreeSet;
import java.util.regex.Matcher;
import java.util.regex.Pattern;
import java.util.stream.Stream;
import javax.tools.ToolProvider;

/** README.md's examples compile as they stand there and answer as it says; it names every call and every test. */
public final class ReadmeTest {
    private static final Pattern BLOCK = Pattern.compile("(?ms)^```java\n(.*?)^```$");
    private static final Pattern CALL = Pattern.compile("(land\\.(\\w+)\\(.*\\)); +// (-?\\d+|true|false|NONE|HIDDEN|NoSuchElementException)(: .*)?");
    private static final Checks CHECKS = new Checks("ReadmeTest");

    private final StringBuilder methods = new StringBuilder();
    private final StringBuilder lines = new StringBuilder();
    private final List<String> due = new ArrayList<>();
    private final List<String> told = new ArrayList<>();
    private final TreeSet<String> called = new TreeSet<>();

    public static void main(String[] args) throws Exception {
        String page = Files.readString(Path.of("README.md"));
        new ReadmeTest().examples(page);
        tests(page);
        CHECKS.end();
    }

    private void examples(String page) throws Exception {
        Matcher block = BLOCK.matcher(page);
        while (block.find()) {
            if (block.group(1).startsWith("static ")) {
                methods.append(block.group(1));
            } else {
                block.group(1).lines().forEach(this::take);
            }
        }
        List<?> answers = run();
        CHECKS.due("as many answers as lines that tell one", due.size(), answers.size());
        for (int i = 0; i < due.size(); i++) {
            CHECKS.yes(told.get(i) + " answers " + answers.get(i), due.get(i).equals(answers.get(i)));
        }
        for (Method m : OldRoads.class.getDeclaredMethods()) {
            if (Modifier.isPublic(m.getModifiers())) {
                CHECKS.yes("an example of " + m.getName(), called.contains(m.getName()));
            }
        }
        // Each feed(land, ..) is two calls at most.
        CHECKS.yes("one object is used for few enough calls", due.size() + 2 * 2 < 512);
    }

    /** A line that tells its answer; or one that makes the object or feeds it a text. */
    private void take(String line) {
        Matcher call = CALL.matcher(line);
        if (!call.matches()) {
            CHECKS.yes("tells an answer: " + line, line.matches("OldRoads land = new OldRoads\\(\\);|feed\\(land, \"[^\"]{1,40}\"\\);"));
            lines.append(line).append('\n');
            return;
        }
        called.add(call.group(2));
        told.add(call.group(1));
        switch (call.group(3)) {
            case "NONE":
                due.add("" + OldRoads.NONE);
                break;
            case "HIDDEN":
                due.add("" + OldRoads.HIDDEN);
                break;
            default:
                due.add(call.group(3));
        }
        lines.append("try { all.add(\"\" + ").append(call.group(1)).append("); }\n");
        lines.append("catch (java.util.NoSuchElementException e) { all.add(\"NoSuchElementException\"); }\n");
    }

    private List<?> run() throws Exception {
        Path folder = Files.createTempDirectory("readme");
        try {
            Path source = folder.resolve("ReadmeRun.java");
            Files.writeString(source, "public final class ReadmeRun {\n" + methods
                + "public static java.util.List<String> run() {\njava.util.List<String> all = new java.util.ArrayList<>();\n"
                + lines + "return all;\n}\n}\n");
            int code = ToolProvider.getSystemJavaCompiler().run(null, null, null, "-cp", System.getProperty("java.class.path"),
                "-d", folder.toString(), source.toString());
            CHECKS.due("the examples compile", 0, code);
            if (code != 0) {
                return List.of();
            }
            try (URLClassLoader loader = new URLClassLoader(new URL[] {folder.toUri().toURL()}, ReadmeTest.class.getClassLoader())) {
                return (List<?>) loader.loadClass("ReadmeRun").getMethod("run").invoke(null);
            }
        } finally {
            remove(folder);
        }
    }

    private static void remove(Path folder) throws IOException {
        try (Stream<Path> files = Files.list(folder)) {
            for (Path file : files.toList()) {
                Files.delete(file);
            }
        }
        Files.delete(folder);
    }

    private static void tests(String page) throws IOException {
        try (Stream<Path> files = Files.list(Path.of("src/test/java"))) {
            for (Path file : files.toList()) {
                String name = file.getFileName().toString().replace(".java", "");
                if (name.endsWith("Test")) {
                    CHECKS.yes("README.md names " + name, page.contains("`" + name + "`:"));
                }
            }
        }
        CHECKS.yes("README.md says how to run the tests", page.contains("```\n.ci/run\n```"));
    }
}
