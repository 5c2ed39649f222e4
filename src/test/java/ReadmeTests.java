import java.io.IOException;
import java.lang.reflect.InvocationTargetException;
import java.net.URI;
import java.net.URL;
import java.net.URLClassLoader;
import java.nio.file.Files;
import java.nio.file.Path;
import java.util.Comparator;
import java.util.List;
import java.util.regex.Matcher;
import java.util.regex.Pattern;
import java.util.stream.Stream;
import javax.tools.JavaCompiler;
import javax.tools.JavaFileObject;
import javax.tools.SimpleJavaFileObject;
import javax.tools.ToolProvider;

/** The example in README.md answers what it says: the number behind a call is its answer. */
public final class ReadmeTests {
    private static final Path README = Path.of("README.md");
    private static final Pattern CALL = Pattern.compile("(guesser[.].*); *// ([0-9.]+):.*");

    private ReadmeTests() {
    }

    public static void main(String[] args) throws IOException, ReflectiveOperationException {
        Checks.part("README.md");
        Path out = Files.createTempDirectory("readme");
        try {
            boolean isCompiled = compile(program(Files.readString(README)), out);
            Checks.due("the example compiles", isCompiled, true);
            if (isCompiled) {
                run(out);
            }
        } finally {
            remove(out);
        }
        Checks.end();
    }

    /** The example as a class whose calls are compared with the numbers behind them. */
    private static String program(String readme) {
        StringBuilder lines = new StringBuilder("public final class Example { public static void run() {\n");
        int answers = 0;
        for (String line : readme.split("```(java)?\n")[1].split("\n")) {
            Matcher call = CALL.matcher(line.trim());
            if (call.matches()) {
                String what = call.group(1).replace("\"", "\\\"");
                lines.append("ReadmeTests.due(\"" + what + "\", " + call.group(1) + ", " + call.group(2) + ");\n");
                answers++;
            } else {
                lines.append(line).append('\n');
            }
        }
        Checks.due("the example says answers", answers > 0, true);
        return lines.append("} }\n").toString();
    }

    /** Open to the example, which is loaded apart and so stands in another package. */
    public static void due(String what, Object got, Object want) {
        Checks.due(what, got, want);
    }

    private static boolean compile(String program, Path out) {
        JavaCompiler compiler = ToolProvider.getSystemJavaCompiler();
        JavaFileObject file = new SimpleJavaFileObject(
                URI.create("string:///Example.java"), JavaFileObject.Kind.SOURCE) {
            @Override
            public CharSequence getCharContent(boolean ignoresErrors) {
                return program;
            }
        };
        List<String> options = List.of("-proc:none", "-d", out.toString(),
                "-cp", System.getProperty("java.class.path"));
        return compiler.getTask(null, null, null, options, null, List.of(file)).call();
    }

    private static void run(Path out) throws IOException, ReflectiveOperationException {
        try (URLClassLoader loader = new URLClassLoader(new URL[] {out.toUri().toURL()})) {
            loader.loadClass("Example").getMethod("run").invoke(null);
        } catch (InvocationTargetException e) {
            Checks.due("the example", e.getCause().toString(), "an end");
        }
    }

    private static void remove(Path directory) throws IOException {
        try (Stream<Path> files = Files.walk(directory)) {
            for (Path file : files.sorted(Comparator.reverseOrder()).toList()) {
                Files.delete(file);
            }
        }
    }
}
