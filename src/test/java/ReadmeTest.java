import java.io.ByteArrayOutputStream;
import java.io.File;
import java.io.IOException;
import java.io.PrintStream;
import java.lang.reflect.Method;
import java.lang.reflect.Modifier;
import java.net.URL;
import java.net.URLClassLoader;
import java.nio.charset.StandardCharsets;
import java.nio.file.Files;
import java.nio.file.Path;
import java.util.Comparator;
import java.util.List;
import java.util.stream.Stream;
import javax.tools.JavaCompiler;
import javax.tools.ToolProvider;

/** README.md tells the truth: its example prints what stands below it, and its table names each call of the face. */
public final class ReadmeTest {
    private static final Path README = Path.of(System.getProperty("project", "."), "README.md");

    /** The lines between the first line that opens a block of this kind and the one that closes it. */
    private static String block(List<String> lines, String kind) {
        StringBuilder text = new StringBuilder();
        int start = lines.indexOf("```" + kind);
        for (int i = start + 1; start >= 0 && i < lines.size() && !lines.get(i).equals("```"); i++) {
            text.append(lines.get(i)).append('\n');
        }
        return text.toString();
    }

    private static String printed(JavaCompiler compiler, String example, Path directory) throws Exception {
        Path source = directory.resolve("Example.java");
        Files.writeString(source, example);
        int failed = compiler.run(null, null, null, "-d", directory.toString(), "-cp",
                System.getProperty("java.class.path"), source.toString());
        Checks.due("compiling the example", failed, 0);
        PrintStream out = System.out;
        ByteArrayOutputStream bytes = new ByteArrayOutputStream();
        try (URLClassLoader loader = new URLClassLoader(new URL[] {directory.toUri().toURL()})) {
            System.setOut(new PrintStream(bytes, true, StandardCharsets.UTF_8));
            loader.loadClass("Example").getMethod("main", String[].class).invoke(null, (Object) new String[0]);
        } finally {
            System.setOut(out);
        }
        return bytes.toString(StandardCharsets.UTF_8).replace(System.lineSeparator(), "\n");
    }

    private static void remove(Path directory) throws IOException {
        try (Stream<Path> paths = Files.walk(directory)) {
            paths.sorted(Comparator.reverseOrder()).map(Path::toFile).forEach(File::delete);
        }
    }

    private static void namesOfCalls(List<String> lines) {
        StringBuilder table = new StringBuilder();
        for (String line : lines) {
            table.append(line.startsWith("|") ? line : "");
        }
        for (Method method : FamilyChart.class.getDeclaredMethods()) {
            if (Modifier.isPublic(method.getModifiers())) {
                Checks.due("the table names " + method.getName(),
                        table.indexOf("`" + method.getName() + "`") >= 0 ? 1 : 0, 1);
            }
        }
    }

    private static void example(List<String> lines) throws Exception {
        JavaCompiler compiler = ToolProvider.getSystemJavaCompiler();
        if (compiler == null) {
            System.out.println("this java has no compiler: the example of README.md was not run");
            return;
        }
        Path directory = Files.createTempDirectory("readme");
        try {
            Checks.due("the example", printed(compiler, block(lines, "java"), directory), block(lines, "text"));
        } finally {
            remove(directory);
        }
    }

    public static void main(String[] args) throws Exception {
        List<String> lines = Files.readAllLines(README);
        example(lines);
        namesOfCalls(lines);
        Checks.end("ReadmeTest");
    }
}
