import java.io.ByteArrayOutputStream;
import java.io.IOException;
import java.io.PrintStream;
import java.net.URL;
import java.net.URLClassLoader;
import java.nio.charset.StandardCharsets;
import java.nio.file.Files;
import java.nio.file.Path;
import java.util.Comparator;
import java.util.List;
import java.util.regex.Matcher;
import java.util.regex.Pattern;
import java.util.stream.Stream;
import javax.tools.ToolProvider;

/** README.md tells what holds: its example compiles and prints what stands there, and it names every call of the face. */
public final class ReadmeTest {
    private static final Checks C = new Checks("ReadmeTest");

    public static void main(String[] args) throws Exception {
        String readme = Files.readString(Path.of("README.md"));
        example(block(readme, "java"), block(readme, "text"));
        for (java.lang.reflect.Method m : ShadowTolls.class.getMethods()) {
            if (m.getDeclaringClass() == ShadowTolls.class) {
                C.same("it names " + m.getName(), readme.contains("`" + m.getName() + "`") ? 1 : 0, 1);
            }
        }
        C.end();
    }

    private static String block(String readme, String kind) {
        Matcher m = Pattern.compile("(?s)```" + kind + "\n(.*?)```").matcher(readme);
        return m.find() ? m.group(1) : "";
    }

    private static void example(String source, String due) throws Exception {
        Path dir = Files.createTempDirectory("readme");
        try {
            Path file = dir.resolve("Example.java");
            Files.writeString(file, source);
            int compiled = ToolProvider.getSystemJavaCompiler().run(null, null, null, "-d", dir.toString(),
                "-cp", System.getProperty("java.class.path"), file.toString());
            C.same("javac of the example", compiled, 0);
            if (compiled == 0) {
                List<String> got = printed(dir).lines().toList();
                List<String> wanted = due.lines().toList();
                C.same("its lines", got.size(), wanted.size());
                for (int i = 0; i < Math.min(got.size(), wanted.size()); i++) {
                    C.same("it prints {" + got.get(i) + "} where {" + wanted.get(i) + "} stands: alike", got.get(i).equals(wanted.get(i)) ? 1 : 0, 1);
                }
            }
        } finally {
            remove(dir);
        }
    }

    private static String printed(Path dir) throws Exception {
        PrintStream out = System.out;
        ByteArrayOutputStream bytes = new ByteArrayOutputStream();
        try (URLClassLoader loader = new URLClassLoader(new URL[] {dir.toUri().toURL()})) {
            System.setOut(new PrintStream(bytes, true, StandardCharsets.UTF_8));
            loader.loadClass("Example").getMethod("main", String[].class).invoke(null, (Object) new String[0]);
        } finally {
            System.setOut(out);
        }
        return bytes.toString(StandardCharsets.UTF_8);
    }

    private static void remove(Path dir) throws IOException {
        try (Stream<Path> all = Files.walk(dir)) {
            for (Path p : all.sorted(Comparator.reverseOrder()).toList()) {
                Files.delete(p);
            }
        }
    }
}
