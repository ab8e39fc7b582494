import java.io.IOException;
import java.lang.reflect.Field;
import java.lang.reflect.Method;
import java.lang.reflect.Modifier;
import java.nio.file.Files;
import java.nio.file.Path;
import java.util.ArrayList;
import java.util.Arrays;
import java.util.List;
import java.util.Set;
import java.util.TreeSet;
import java.util.regex.Matcher;
import java.util.regex.Pattern;

/** The rules of ../shared/LANGUAGE.md that can be seen from the source and its classes. */
public final class RulesTest {
    private static final Set<String> EXCEPTIONS = Set.of("IllegalStateException", "IllegalArgumentException",
            "IndexOutOfBoundsException", "ArithmeticException", "UnsupportedOperationException",
            "NoSuchElementException", "RuntimeException");
    private static final Set<String> LIBRARY = Set.of("length", "charAt", "isEmpty", "equals", "indexOf",
            "substring", "toCharArray", "max", "min");

    private RulesTest() {
    }

    public static void main(String[] arguments) throws IOException {
        String source = bare(Files.readString(Path.of("src/main/java/BlockFront.java")));
        wordsThatAreNotUsed(source);
        exceptions(source);
        library(source);
        methods(source);
        classes();
        Check.finish();
    }

    /** The source without comments and with nothing in its texts. */
    private static String bare(String source) {
        return source.replaceAll("(?s)/\\*.*?\\*/", "").replaceAll("//[^\n]*", "")
                .replaceAll("'(?:\\\\.|[^'\\\\])'", "'c'").replaceAll("\"(?:\\\\.|[^\"\\\\])*\"", "\"text\"");
    }

    private static void none(String source, String pattern) {
        Matcher found = Pattern.compile(pattern).matcher(source);
        Check.same("no " + pattern, found.find() ? found.group() : "none", "none");
    }

    private static void wordsThatAreNotUsed(String source) {
        String[] words = {"package", "finally", "synchronized", "assert", "native", "volatile", "transient",
            "float", "double", "Object", "Exact", "getMessage", "printStackTrace", "System", "Thread", "Random",
            "hashCode", "toString", "lambda", "extends"};
        for (String word : words) {
            none(source, "\\b\\w*" + word + "\\b");
        }
        none(source, "->");
        none(source, "::");
        none(source, "static\\s*\\{");
        none(source, "try\\s*\\(");
        none(source, "\"text\"\\s*\\+|\\+\\s*\"text\"");
        none(source, "\\[\\]\\s*\\[\\]");
        Matcher imported = Pattern.compile("import ([^;]*);").matcher(source);
        while (imported.find()) {
            Check.same("import", imported.group(1), "java.util.NoSuchElementException");
        }
    }

    private static void exceptions(String source) {
        Matcher thrown = Pattern.compile("throw ([^;]*);").matcher(source);
        int count = 0;
        while (thrown.find()) {
            count++;
            Matcher made = Pattern.compile("new (\\w+)\\(\"text\"\\)").matcher(thrown.group(1));
            Check.same(thrown.group(), made.matches() && EXCEPTIONS.contains(made.group(1)), true);
        }
        Check.same("some are thrown", count > 0, true);
        Matcher caught = Pattern.compile("catch \\((\\w+) (\\w+)\\)").matcher(source);
        while (caught.find()) {
            Check.same(caught.group(), caught.group(1), "IllegalStateException");
            Check.same("left alone", times(source, "\\b" + caught.group(2) + "\\b"),
                    times(source, "catch \\(\\w+ " + caught.group(2) + "\\)"));
        }
    }

    private static int times(String source, String pattern) {
        return source.split(pattern, -1).length - 1;
    }

    /** Behind a point stand only methods of the file itself and of the library that is listed. */
    private static void library(String source) {
        Set<String> own = new TreeSet<>();
        for (Class<?> one : all()) {
            for (Method method : one.getDeclaredMethods()) {
                own.add(method.getName());
            }
        }
        Matcher called = Pattern.compile("\\.\\s*(\\w+)\\(").matcher(source);
        while (called.find()) {
            String name = called.group(1);
            Check.same(name + " may be called", own.contains(name) || LIBRARY.contains(name), true);
        }
    }

    private static void methods(String source) {
        String[] lines = source.split("\n", -1);
        Pattern head = Pattern.compile(" {4,8}(?:private |public |static )*[\\w\\[\\]]+ \\w+\\(.*\\{");
        for (int i = 0; i < lines.length; i++) {
            if (head.matcher(lines[i]).matches()) {
                String end = lines[i].replaceAll("\\S.*", "") + "}";
                int last = i;
                while (!lines[last].equals(end)) {
                    last++;
                }
                Check.same(lines[i].strip() + " is short", last - i < 60, true);
                String body = String.join("\n", Arrays.asList(lines).subList(i, last));
                boolean holdsBoth = times(body, "\\btry\\b") > 0 && times(body, "\\bthrow\\b") > 0;
                Check.same(lines[i].strip() + " throws and catches", holdsBoth, false);
            }
        }
    }

    private static List<Class<?>> all() {
        List<Class<?>> all = new ArrayList<>(List.of(BlockFront.class.getDeclaredClasses()));
        all.add(BlockFront.class);
        return all;
    }

    private static void classes() {
        Set<String> face = new TreeSet<>();
        for (Method method : BlockFront.class.getDeclaredMethods()) {
            if (Modifier.isPublic(method.getModifiers())) {
                face.add(method.getName());
            }
        }
        Check.same("classes", all().size() <= 12, true);
        for (Class<?> one : all()) {
            int fields = 0;
            for (Field field : one.getDeclaredFields()) {
                boolean isStatic = Modifier.isStatic(field.getModifiers());
                Check.same(field + " private", Modifier.isPrivate(field.getModifiers()), true);
                Check.same(field + " final", !isStatic || Modifier.isFinal(field.getModifiers()), true);
                fields += isStatic ? 0 : 1;
            }
            Check.same(one + " fields", fields <= 20, true);
            for (Method method : one.getDeclaredMethods()) {
                boolean isFace = one == BlockFront.class && Modifier.isPublic(method.getModifiers());
                Check.same(method + " name", isFace || !face.contains(method.getName()), true);
                Check.same(method + " parameters", method.getParameterCount() <= 7, true);
            }
            boolean isOuter = one == BlockFront.class;
            Check.same(one + " static", isOuter || Modifier.isStatic(one.getModifiers()), true);
        }
    }
}
