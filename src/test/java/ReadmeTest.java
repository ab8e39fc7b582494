import java.io.ByteArrayOutputStream;
import java.io.IOException;
import java.io.PrintStream;
import java.lang.reflect.Method;
import java.lang.reflect.Modifier;
import java.net.URL;
import java.net.URLClassLoader;
import java.nio.file.Files;
import java.nio.file.Path;
import java.util.Comparator;
import java.util.List;
import java.util.stream.Collectors;
import java.util.stream.Stream;
import javax.tools.JavaCompiler;
import javax.tools.ToolProvider;

/** README.md: its example prints what is told there, and each call of the face is named. */
public final class ReadmeTest {
    private ReadmeTest() {
    }

    public static void main(String[] arguments) throws IOException, ReflectiveOperationException {
        String readme = Files.readString(Path.of("README.md"));
        for (Method method : BlockFront.class.getDeclaredMethods()) {
            if (Modifier.isPublic(method.getModifiers())) {
                Check.same(method.getName() + " is named", readme.contains("`" + method.getName() + "("), true);
            }
        }
        Check.same(".ci/run is named", readme.contains(".ci/run"), true);
        Check.same("the example prints", printedBy(fenced(readme, "java")), fenced(readme, "text"));
        Check.finish();
    }

    /** What stands in the first fence that is marked so. */
    private static String fenced(String readme, String mark) {
        String opening = "```" + mark + "\n";
        int first = readme.indexOf(opening) + opening.length();
        return readme.substring(first, readme.indexOf("```", first));
    }

    private static String printedBy(String example) throws IOException, ReflectiveOperationException {
        Path folder = Files.createTempDirectory("readme");
        try {
            return run(folder, "public class Example {\n    public static void main(String[] arguments) {\n"
                    + example + "    }\n}\n");
        } finally {
            List<Path> made;
            try (Stream<Path> below = Files.walk(folder)) {
                made = below.sorted(Comparator.reverseOrder()).collect(Collectors.toList());
            }
            for (Path one : made) {
                Files.delete(one);
            }
        }
    }

    private static String run(Path folder, String source) throws IOException, ReflectiveOperationException {
        Path file = Files.writeString(folder.resolve("Example.java"), source);
        JavaCompiler compiler = ToolProvider.getSystemJavaCompiler();
        int failed = compiler.run(null, null, null, "-cp", System.getProperty("java.class.path"),
                "-d", folder.toString(), file.toString());
        Check.same("the example compiles", failed, 0);
        ByteArrayOutputStream printed = new ByteArrayOutputStream();
        PrintStream before = System.out;
        try (URLClassLoader loader = new URLClassLoader(new URL[] {folder.toUri().toURL()})) {
            System.setOut(new PrintStream(printed, true));
            loader.loadClass("Example").getMethod("main", String[].class).invoke(null, (Object) new String[0]);
        } finally {
            System.setOut(before);
        }
        return printed.toString();
    }
}
