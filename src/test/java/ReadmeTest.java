import java.io.ByteArrayOutputStream;
import java.io.IOException;
import java.io.PrintStream;
import java.lang.reflect.Method;
import java.lang.reflect.Modifier;
import java.net.URL;
import java.net.URLClassLoader;
import java.nio.charset.StandardCharsets;
import java.nio.file.Files;
import java.nio.file.Path;
import java.util.ArrayList;
import java.util.List;
import java.util.regex.Matcher;
import java.util.regex.Pattern;
import java.util.stream.Stream;
import javax.tools.JavaCompiler;
import javax.tools.ToolProvider;

/** README.md: its example, compiled and run, prints what the page says, and it names every call and every test. */
public final class ReadmeTest {
    private static final Tally T = new Tally("ReadmeTest");

    private ReadmeTest() {
    }

    public static void main(String[] args) throws IOException, ReflectiveOperationException {
        String page = Files.readString(Path.of("README.md"));
        example(block(page, "java"), block(page, "text"));
        for (Method method : SilverBall.class.getDeclaredMethods()) {
            boolean isPublic = Modifier.isPublic(method.getModifiers());
            T.due("README names " + method.getName(), !isPublic || page.contains("`" + method.getName() + "("), true);
        }
        try (Stream<Path> files = Files.list(Path.of("src/test/java"))) {
            for (Path file : files.toList()) {
                String name = file.getFileName().toString();
                T.due("README names " + name, !name.endsWith("Test.java") || page.contains(name), true);
            }
        }
        T.close();
    }

    private static String block(String page, String sort) {
        Matcher matcher = Pattern.compile("(?s)```" + sort + "\n(.*?)```").matcher(page);
        boolean found = matcher.find();
        T.due("README has a block of " + sort, found, true);
        return found ? matcher.group(1) : "";
    }

    private static void example(String source, String wanted) throws IOException, ReflectiveOperationException {
        Path folder = Files.createTempDirectory("readme");
        try {
            Path file = Files.writeString(folder.resolve("Example.java"), source);
            JavaCompiler compiler = ToolProvider.getSystemJavaCompiler();
            int fault = compiler.run(null, null, null, "-encoding", "UTF-8", "-cp", System.getProperty("java.class.path"),
                    "-d", folder.toString(), file.toString());
            T.due("the example is compiled", fault, 0);
            List<String> got = fault == 0 ? linesOf(folder) : new ArrayList<>();
            List<String> want = wanted.lines().toList();
            T.due("lines that the example prints", got.size(), want.size());
            for (int i = 0; i < got.size() && i < want.size(); i++) {
                T.due("'" + got.get(i) + "' is '" + want.get(i) + "'", got.get(i).equals(want.get(i)), true);
            }
        } finally {
            remove(folder);
        }
    }

    private static List<String> linesOf(Path folder) throws IOException, ReflectiveOperationException {
        PrintStream ahead = System.out;
        ByteArrayOutputStream printed = new ByteArrayOutputStream();
        try (URLClassLoader loader = new URLClassLoader(new URL[] {folder.toUri().toURL()})) {
            System.setOut(new PrintStream(printed, true, StandardCharsets.UTF_8));
            loader.loadClass("Example").getMethod("main", String[].class).invoke(null, (Object) new String[0]);
        } finally {
            System.setOut(ahead);
        }
        return printed.toString(StandardCharsets.UTF_8).lines().toList();
    }

    private static void remove(Path folder) throws IOException {
        try (Stream<Path> files = Files.list(folder)) {
            for (Path file : files.toList()) {
                Files.delete(file);
            }
        }
        Files.delete(folder);
    }
}
