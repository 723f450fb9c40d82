import java.io.ByteArrayOutputStream;
import java.io.PrintStream;
import java.lang.reflect.Method;
import java.net.URL;
import java.net.URLClassLoader;
import java.nio.charset.StandardCharsets;
import java.nio.file.Files;
import java.nio.file.Path;
import javax.tools.JavaCompiler;
import javax.tools.ToolProvider;

/** That README.md's example compiles and prints what stands there, and that it names every call of the face. */
public final class ReadmeTest {
    private ReadmeTest() {
    }

    public static void main(String[] args) throws Exception {
        String readme = Files.readString(Path.of("README.md"));
        example(readme);
        calls(readme);
        Check.finish();
    }

    private static void example(String readme) throws Exception {
        Path folder = Files.createTempDirectory("readme");
        Path source = folder.resolve("Example.java");
        Path compiled = folder.resolve("Example.class");
        try {
            Files.writeString(source, block(readme, "java"));
            JavaCompiler compiler = ToolProvider.getSystemJavaCompiler();
            int refused = compiler.run(null, System.out, System.out, "-cp", System.getProperty("java.class.path"),
                    "-d", folder.toString(), source.toString());
            Check.due("README's example is compiled with faults", refused, 0);
            if (refused == 0) {
                String printed = run(folder);
                Check.due("README's example prints what stands there", printed.equals(block(readme, "text")), true);
                Check.due("README's example prints something", printed.isEmpty(), false);
            }
        } finally {
            Files.deleteIfExists(compiled);
            Files.deleteIfExists(source);
            Files.deleteIfExists(folder);
        }
    }

    private static String run(Path folder) throws Exception {
        ByteArrayOutputStream bytes = new ByteArrayOutputStream();
        PrintStream before = System.out;
        try (URLClassLoader loader = new URLClassLoader(new URL[] {folder.toUri().toURL()})) {
            System.setOut(new PrintStream(bytes, true, StandardCharsets.UTF_8));
            loader.loadClass("Example").getMethod("main", String[].class).invoke(null, (Object) new String[0]);
        } finally {
            System.setOut(before);
        }
        return bytes.toString(StandardCharsets.UTF_8).replace("\r\n", "\n");
    }

    /** What stands in the first block of a kind. */
    private static String block(String readme, String kind) {
        String opening = "```" + kind + "\n";
        int from = readme.indexOf(opening);
        int to = from < 0 ? -1 : readme.indexOf("```", from + opening.length());
        return to < 0 ? "" : readme.substring(from + opening.length(), to);
    }

    /** A call stands there with the number of its promise, which is its place in the face. */
    private static void calls(String readme) throws Exception {
        for (Method method : MillBoats.class.getMethods()) {
            if (method.getDeclaringClass() == MillBoats.class) {
                String name = method.getName();
                int promise = promiseOf(name);
                String named = "`" + name + "` " + promise;
                boolean there = readme.contains(named + ",") || readme.contains(named + ".")
                        || readme.contains(named + ";") || readme.contains(named + " ");
                Check.due("README names " + named, promise > 0 && there, true);
            }
        }
    }

    /** The number of a promise by the document's headings. */
    private static int promiseOf(String name) throws Exception {
        for (String line : Files.readAllLines(Path.of("../shared/DOC.md"))) {
            if (line.startsWith("## Promise ") && line.endsWith(": " + name)) {
                return Integer.parseInt(line.substring("## Promise ".length(), line.indexOf(':')));
            }
        }
        return 0;
    }
}
