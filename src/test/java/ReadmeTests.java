import java.io.IOException;
import java.io.UncheckedIOException;
import java.lang.reflect.InvocationTargetException;
import java.lang.reflect.Method;
import java.lang.reflect.Modifier;
import java.net.URL;
import java.net.URLClassLoader;
import java.nio.file.Files;
import java.nio.file.Path;
import java.util.ArrayList;
import java.util.Comparator;
import java.util.List;
import java.util.TreeSet;
import java.util.regex.Matcher;
import java.util.regex.Pattern;
import java.util.stream.Stream;
import javax.tools.JavaCompiler;
import javax.tools.ToolProvider;

/** What README.md shows: its examples are compiled as they stand there, and each call answers what is told of it. */
final class ReadmeTests {
    private static final Path README = Path.of("README.md");
    private static final Path TESTS = Path.of("src/test/java");
    private static final Pattern EXAMPLE =
            Pattern.compile("(int \\w+ = )?(\\w+\\.(\\w+)\\(.*\\)); +// (NONE|-?\\d+|throws \\w+)(: .*)?");

    private ReadmeTests() { }

    static void addTo(List<Check.Test> tests) {
        tests.add(new Check.Test("README.md: each example answers what it tells", ReadmeTests::examplesAnswer));
        tests.add(new Check.Test("README.md: each call of the face has an example", ReadmeTests::faceIsShown));
        tests.add(new Check.Test("README.md: each kind of exception has an example", ReadmeTests::exceptionsAreShown));
        tests.add(new Check.Test("README.md: each file of tests is named", ReadmeTests::filesAreNamed));
    }

    private static void examplesAnswer() {
        try {
            Path folder = Files.createTempDirectory("readme");
            try {
                Check.same("what the examples answer", "", answers(folder));
            } finally {
                remove(folder);
            }
        } catch (IOException | ReflectiveOperationException fault) {
            throw new AssertionError(fault);
        }
    }

    /** Compiles the examples into the folder and runs them; answers a line for each that answers something else. */
    private static String answers(Path folder) throws IOException, ReflectiveOperationException {
        Path source = Files.writeString(folder.resolve("ReadmeExamples.java"), program());
        JavaCompiler compiler = ToolProvider.getSystemJavaCompiler();
        int failed = compiler.run(null, null, null, "-d", folder.toString(), "-cp",
                System.getProperty("java.class.path"), source.toString());
        Check.equal("compiling the examples", 0, failed);
        try (URLClassLoader loader = new URLClassLoader(new URL[] {folder.toUri().toURL()})) {
            return (String) loader.loadClass("ReadmeExamples").getMethod("run").invoke(null);
        } catch (InvocationTargetException thrown) {
            return "an example without an answer throws: " + thrown.getCause();
        }
    }

    private static void remove(Path folder) throws IOException {
        try (Stream<Path> files = Files.walk(folder)) {
            for (Path file : files.sorted(Comparator.reverseOrder()).toList()) {
                Files.delete(file);
            }
        }
    }

    private static String program() {
        StringBuilder program = new StringBuilder("public class ReadmeExamples {\n")
                .append("public static String run() {\nStringBuilder wrong = new StringBuilder();\nString got;\n");
        for (String line : exampleLines()) {
            Matcher example = EXAMPLE.matcher(line);
            if (!example.matches()) {
                Check.equal("has no answer: " + line, 0, line.startsWith("mine.") ? 1 : 0);
                program.append(line).append('\n');
            } else if (example.group(1) != null) {
                program.append(line).append("\ngot = String.valueOf(").append(line.split(" ")[1]).append(");\n");
                program.append(comparison(example));
            } else {
                program.append("try { got = String.valueOf(").append(example.group(2)).append("); }\n")
                        .append("catch (RuntimeException e) { got = \"throws \" + e.getClass().getSimpleName(); }\n");
                program.append(comparison(example));
            }
        }
        return program.append("return wrong.toString();\n}\n}\n").toString();
    }

    private static String comparison(Matcher example) {
        String due = example.group(4).replace("NONE", String.valueOf(TunnelLamps.NONE));
        String call = example.group(2).replace("\\", "\\\\").replace("\"", "\\\"");
        return "if (!got.equals(\"" + due + "\")) wrong.append(\"\\n" + call + " answers \" + got + \", not " + due
                + "\");\n";
    }

    private static void faceIsShown() {
        TreeSet<String> missing = new TreeSet<>();
        for (Method method : TunnelLamps.class.getDeclaredMethods()) {
            if (Modifier.isPublic(method.getModifiers())) {
                missing.add(method.getName());
            }
        }
        for (String line : exampleLines()) {
            Matcher example = EXAMPLE.matcher(line);
            if (example.matches() && !example.group(4).startsWith("throws")) {
                missing.remove(example.group(3));
            }
        }
        Check.same("calls without an example", "[]", missing.toString());
    }

    private static void exceptionsAreShown() {
        String readme = String.join("\n", exampleLines());
        for (Class<?> kind : new Class<?>[] {Check.NO_SUCH, Check.OUT_OF_RANGE, Check.NOT_POSSIBLE}) {
            Check.equal(kind + " is shown", 1, readme.contains("// throws " + kind.getSimpleName()) ? 1 : 0);
        }
    }

    private static void filesAreNamed() {
        String readme = String.join("\n", lines());
        try (Stream<Path> files = Files.list(TESTS)) {
            for (Path file : files.toList()) {
                String name = file.getFileName().toString().replace(".java", "");
                Check.equal(name + " is named", 1, readme.contains("`" + name + "`") ? 1 : 0);
            }
        } catch (IOException fault) {
            throw new UncheckedIOException(fault);
        }
    }

    /** The lines of all parts that are marked as Java, which are one program together. */
    private static List<String> exampleLines() {
        List<String> examples = new ArrayList<>();
        boolean isExample = false;
        for (String line : lines()) {
            if (line.startsWith("```")) {
                isExample = line.equals("```java");
            } else if (isExample) {
                examples.add(line);
            }
        }
        return examples;
    }

    private static List<String> lines() {
        try {
            return Files.readAllLines(README);
        } catch (IOException fault) {
            throw new UncheckedIOException(fault);
        }
    }
}
