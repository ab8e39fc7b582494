import java.io.IOException;
import java.lang.reflect.Field;
import java.lang.reflect.Method;
import java.lang.reflect.Modifier;
import java.nio.file.Files;
import java.nio.file.Path;
import java.util.HashMap;
import java.util.Map;
import java.util.Set;
import java.util.TreeMap;
import java.util.TreeSet;
import java.util.regex.Matcher;
import java.util.regex.Pattern;

/** The rules of ../shared/LANGUAGE.md on calls: who may call himself, and how deep calls go. */
public final class CallsTest {
    private static final int MOST_DEEP = 8;
    private static final String OUTER = "BlockFront";
    private static final Pattern CLASS = Pattern.compile(" {4}private static final class (\\w+) \\{");
    private static final Pattern HEAD =
            Pattern.compile("( {4}| {8})(?:private |public |static )*(?!public )[\\w\\[\\]]+ (\\w+)\\(.*\\{");
    private static final Pattern CALL = Pattern.compile("(?:\\b(\\w+)\\.)?\\b(\\w+)\\(");

    private final Map<String, Class<?>> classes = new TreeMap<>();
    private final Map<String, Method> methods = new TreeMap<>();
    private final Map<String, Set<String>> called = new TreeMap<>();
    private final Map<String, Set<String>> reached = new TreeMap<>();
    private final Map<String, Integer> depths = new HashMap<>();

    private CallsTest() {
        classes.put(OUTER, BlockFront.class);
        for (Class<?> one : BlockFront.class.getDeclaredClasses()) {
            classes.put(one.getSimpleName(), one);
        }
        for (Class<?> one : classes.values()) {
            for (Method method : one.getDeclaredMethods()) {
                String name = one.getSimpleName() + "." + method.getName();
                Check.same(name + " bears a name of its own", methods.put(name, method) == null, true);
            }
        }
    }

    public static void main(String[] arguments) throws IOException {
        CallsTest test = new CallsTest();
        test.find(Files.readString(Path.of("src/main/java/BlockFront.java")).split("\n", -1));
        test.reach();
        test.recursionIsPrivate();
        test.otherCallsAreEightDeep();
        Check.finish();
    }

    private void find(String[] lines) {
        String owner = OUTER;
        for (int i = 0; i < lines.length; i++) {
            Matcher inner = CLASS.matcher(lines[i]);
            Matcher head = HEAD.matcher(lines[i]);
            if (inner.matches()) {
                owner = inner.group(1);
            } else if (head.matches()) {
                Set<String> found = new TreeSet<>();
                for (i++; !lines[i].equals(head.group(1) + "}"); i++) {
                    addCalls(owner, lines[i], found);
                }
                called.put(owner + "." + head.group(2), found);
            }
        }
        Check.same("every method is found", called.keySet().toString(), methods.keySet().toString());
    }

    private void addCalls(String owner, String line, Set<String> found) {
        Matcher call = CALL.matcher(line.replaceAll("//.*", "").replaceAll("\"[^\"]*\"", "\"\""));
        while (call.find()) {
            String target = call.group(1) == null ? owner : typeOf(owner, call.group(1));
            if (methods.containsKey(target + "." + call.group(2))) {
                found.add(target + "." + call.group(2));
            } else if (call.group(1) == null && methods.containsKey(OUTER + "." + call.group(2))) {
                found.add(OUTER + "." + call.group(2));
            }
        }
    }

    private String typeOf(String owner, String receiver) {
        for (Field field : classes.get(owner).getDeclaredFields()) {
            if (field.getName().equals(receiver)) {
                return field.getType().getSimpleName();
            }
        }
        return "none";
    }

    private void reach() {
        for (String name : called.keySet()) {
            reached.put(name, new TreeSet<>(called.get(name)));
        }
        for (String through : called.keySet()) {
            for (Set<String> ends : reached.values()) {
                if (ends.contains(through)) {
                    ends.addAll(reached.get(through));
                }
            }
        }
    }

    private void recursionIsPrivate() {
        int recursive = 0;
        for (String name : called.keySet()) {
            if (reached.get(name).contains(name)) {
                recursive++;
                Check.same(name + " is private", Modifier.isPrivate(methods.get(name).getModifiers()), true);
            }
        }
        Check.same("some methods are recursive", recursive > 0, true);
    }

    /** Methods that call one another stand for one call. */
    private void otherCallsAreEightDeep() {
        int deepest = 0;
        for (String name : called.keySet()) {
            Check.same(name + " goes " + depthOf(name) + " deep", depthOf(name) <= MOST_DEEP, true);
            deepest = Math.max(deepest, depthOf(name));
        }
        Check.same("some calls go deep", deepest > 4, true);
    }

    private int depthOf(String name) {
        if (depths.containsKey(name)) {
            return depths.get(name);
        }
        int below = 0;
        for (String one : called.keySet()) {
            if (one.equals(name) || isOneGroup(one, name)) {
                for (String target : called.get(one)) {
                    below = Math.max(below, isOneGroup(target, name) ? 0 : depthOf(target));
                }
            }
        }
        depths.put(name, below + 1);
        return below + 1;
    }

    private boolean isOneGroup(String one, String other) {
        return reached.get(one).contains(other) && reached.get(other).contains(one);
    }
}
