import java.lang.reflect.Constructor;
import java.lang.reflect.Field;
import java.lang.reflect.Method;
import java.lang.reflect.Modifier;
import java.util.Arrays;
import java.util.TreeSet;

/** The class has the document's face and no other member that can be seen from outside. */
public final class FaceTest {
    private FaceTest() {
    }

    public static void main(String[] arguments) {
        Class<?> face = BlockFront.class;
        Check.same("public and final", Modifier.toString(face.getModifiers()), "public final");
        TreeSet<String> seen = new TreeSet<>();
        for (Method method : face.getDeclaredMethods()) {
            if (!Modifier.isPrivate(method.getModifiers())) {
                seen.add(method.toString());
            }
        }
        for (Constructor<?> constructor : face.getDeclaredConstructors()) {
            seen.add(constructor.toString());
        }
        for (Field field : face.getDeclaredFields()) {
            if (!Modifier.isPrivate(field.getModifiers())) {
                seen.add(field.toString());
            }
        }
        Check.same("the face", seen, new TreeSet<>(Arrays.asList(
                "public BlockFront()",
                "public int BlockFront.type(long,int) throws java.lang.IllegalArgumentException,"
                        + "java.lang.IllegalStateException",
                "public int BlockFront.clear()",
                "public int BlockFront.read() throws java.lang.UnsupportedOperationException",
                "public int BlockFront.why()",
                "public int BlockFront.where()",
                "public int BlockFront.token(int,int) throws java.util.NoSuchElementException",
                "public int BlockFront.nodes()",
                "public int BlockFront.node(int,int) throws java.util.NoSuchElementException",
                "public int BlockFront.length()",
                "public char BlockFront.output(int) throws java.util.NoSuchElementException")));
        Check.finish();
    }
}
