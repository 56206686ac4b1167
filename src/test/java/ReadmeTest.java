import java.io.IOException;
import java.lang.reflect.Method;
import java.lang.reflect.Modifier;
import java.net.URL;
import java.net.URLClassLoader;
import java.nio.file.Files;
import java.nio.file.Path;
import java.util.ArrayList;
import java.util.List;
import java.util.regex.Matcher;
import java.util.regex.Pattern;
import java.util.stream.Stream;
import javax.tools.JavaCompiler;
import javax.tools.ToolProvider;

/** Compiles and runs README.md's examples: each call answers the number, or throws what stands behind it. */
public final class ReadmeTest {
    private static final String PROGRAM = "ReadmeExamples";
    private static final Pattern CALL = Pattern.compile("^(?:int (\\w+) = )?(sea\\.\\w+\\(.*\\));$");
    private static final Pattern ANSWER = Pattern.compile("^(-?\\d+)(?::.*)?$");
    private static final Pattern REFUSAL = Pattern.compile("^throws (\\w+):.*$");
    private static final Check CHECK = new Check("ReadmeTest");

    private ReadmeTest() {
    }

    public static void main(String[] args) throws Exception {
        List<String> lines = Files.readAllLines(Path.of("README.md"));
        CHECK.text("calls of the face without an example", "none", callsWithoutExample(lines));
        Path folder = Files.createTempDirectory("readme");
        try {
            runExamples(folder, programOf(lines));
        } finally {
            remove(folder);
        }
        CHECK.end();
    }

    // public, as the compiled examples come from another class loader

    public static void answer(String line, int due, int got) {
        CHECK.due(line, due, got);
    }

    public static void refused(String line, String due, RuntimeException got) {
        CHECK.text(line, due, got == null ? "an answer" : got.getClass().getSimpleName());
    }

    private static String programOf(List<String> lines) {
        StringBuilder program = new StringBuilder("public final class " + PROGRAM + " {\n"
                + "public static void run() {\n");
        boolean isExample = false;
        for (String line : lines) {
            if (line.equals("```java")) {
                isExample = true;
                program.append("{\n");
            } else if (line.equals("```") && isExample) {
                isExample = false;
                program.append("}\n");
            } else if (isExample) {
                program.append(lookingAt(line)).append('\n');
            }
        }
        return program.append("}\n}\n").toString();
    }

    /** The line, with a look at what it says of its answer. */
    private static String lookingAt(String line) {
        String[] parts = line.split("//", 2);
        String code = parts[0].trim();
        String said = parts.length > 1 ? parts[1].trim() : "";
        Matcher call = CALL.matcher(code);
        Matcher answer = ANSWER.matcher(said);
        Matcher refusal = REFUSAL.matcher(said);
        String quoted = '"' + code + '"';
        if (call.matches() && answer.matches()) {
            String got = call.group(1) == null ? call.group(2) : call.group(1);
            String ahead = call.group(1) == null ? "" : code;
            return ahead + " ReadmeTest.answer(" + quoted + ", " + answer.group(1) + ", " + got + ");";
        }
        if (call.matches() && refusal.matches()) {
            return "{ RuntimeException got = null; try { " + code + " } catch (RuntimeException e) { got = e; }"
                    + " ReadmeTest.refused(" + quoted + ", \"" + refusal.group(1) + "\", got); }";
        }
        CHECK.text("a line without a call that tells its answer", "GyreWatch sea = new GyreWatch();", code);
        return code;
    }

    private static String callsWithoutExample(List<String> lines) {
        String all = String.join("\n", lines);
        StringBuilder missing = new StringBuilder();
        for (Method method : GyreWatch.class.getDeclaredMethods()) {
            boolean isOfFace = Modifier.isPublic(method.getModifiers());
            if (isOfFace && !all.contains("sea." + method.getName() + "(")) {
                missing.append(' ').append(method.getName());
            }
        }
        return missing.length() == 0 ? "none" : missing.toString();
    }

    private static void runExamples(Path folder, String program) throws Exception {
        Path source = folder.resolve(PROGRAM + ".java");
        Files.writeString(source, program);
        JavaCompiler compiler = ToolProvider.getSystemJavaCompiler();
        int failed = compiler == null ? 1 : compiler.run(null, null, null, "-proc:none", "-d", folder.toString(),
                "-cp", System.getProperty("java.class.path"), source.toString());
        CHECK.due("the examples compile", 0, failed);
        if (failed == 0) {
            try (URLClassLoader loader = new URLClassLoader(new URL[] {folder.toUri().toURL()})) {
                loader.loadClass(PROGRAM).getMethod("run").invoke(null);
            }
        }
    }

    private static void remove(Path folder) throws IOException {
        List<Path> files = new ArrayList<>();
        try (Stream<Path> found = Files.list(folder)) {
            found.forEach(files::add);
        }
        for (Path file : files) {
            Files.delete(file);
        }
        Files.delete(folder);
    }
}
