import java.io.ByteArrayOutputStream;
import java.io.IOException;
import java.io.PrintStream;
import java.lang.reflect.Field;
import java.lang.reflect.InvocationTargetException;
import java.lang.reflect.Method;
import java.lang.reflect.Modifier;
import java.net.URL;
import java.net.URLClassLoader;
import java.nio.charset.StandardCharsets;
import java.nio.file.Files;
import java.nio.file.Path;
import java.util.List;
import java.util.stream.Collectors;
import java.util.stream.Stream;
import javax.tools.ToolProvider;

/** README.md says how to use the class and how to run its tests: what it says there is so. */
public final class ReadmeTest {
    private static final Check CHECK = new Check("ReadmeTest");
    private static final Path PAGE = Path.of("README.md");
    private static final Path TESTS = Path.of("src/test/java");

    public static void main(String[] args) throws IOException, ReflectiveOperationException {
        String page = Files.readString(PAGE);
        namesTheFace(page);
        namesTheTests(page);
        CHECK.same("what the example prints", block(page, "text"), printed(block(page, "java")));
        CHECK.end();
    }

    private static void namesTheFace(String page) {
        for (Method method : ContractDesk.class.getDeclaredMethods()) {
            if (Modifier.isPublic(method.getModifiers())) {
                CHECK.holds("the page names " + method.getName(), page.contains("`" + method.getName() + "("));
            }
        }
        for (Field field : ContractDesk.class.getDeclaredFields()) {
            if (Modifier.isPublic(field.getModifiers())) {
                CHECK.holds("the page names " + field.getName(), page.contains("`" + field.getName() + "`"));
            }
        }
    }

    private static void namesTheTests(String page) throws IOException {
        CHECK.holds("the page names .ci/run", page.contains("    .ci/run\n"));
        for (String name : testNames()) {
            CHECK.holds("the page names " + name, page.contains("`" + name + "`"));
        }
    }

    private static List<String> testNames() throws IOException {
        try (Stream<Path> files = Files.list(TESTS)) {
            return files.map(file -> file.getFileName().toString()).filter(name -> name.endsWith("Test.java"))
                .map(name -> name.substring(0, name.length() - ".java".length())).collect(Collectors.toList());
        }
    }

    /** The first block of the page that is told to be of this kind. */
    private static String block(String page, String kind) {
        String begin = "```" + kind + "\n";
        int from = page.indexOf(begin);
        int to = from < 0 ? -1 : page.indexOf("```", from + begin.length());
        CHECK.holds("the page has a block of " + kind, to >= 0);
        return to < 0 ? "" : page.substring(from + begin.length(), to);
    }

    private static String printed(String example) throws IOException, ReflectiveOperationException {
        Path dir = Files.createTempDirectory("readme");
        Path source = dir.resolve("Example.java");
        Files.writeString(source, "public class Example { public static void main(String[] args) {\n" + example + "} }\n");
        int failed = ToolProvider.getSystemJavaCompiler().run(null, null, null, "-cp",
            System.getProperty("java.class.path"), "-d", dir.toString(), source.toString());
        CHECK.due("compiling the example", 0, failed);
        String out = failed == 0 ? runExample(dir) : "";
        Files.deleteIfExists(dir.resolve("Example.class"));
        Files.delete(source);
        Files.delete(dir);
        return out;
    }

    private static String runExample(Path dir) throws IOException, ReflectiveOperationException {
        PrintStream console = System.out;
        ByteArrayOutputStream bytes = new ByteArrayOutputStream();
        try (URLClassLoader loader = new URLClassLoader(new URL[] {dir.toUri().toURL()})) {
            System.setOut(new PrintStream(bytes, true, StandardCharsets.UTF_8));
            loader.loadClass("Example").getMethod("main", String[].class).invoke(null, (Object) new String[0]);
        } catch (InvocationTargetException thrown) {
            CHECK.holds("the example throws nothing, but " + thrown.getCause(), false);
        } finally {
            System.setOut(console);
        }
        return bytes.toString(StandardCharsets.UTF_8).replace(System.lineSeparator(), "\n");
    }
}
