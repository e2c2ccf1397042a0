import java.lang.reflect.Constructor;
import java.lang.reflect.Field;
import java.lang.reflect.Method;
import java.lang.reflect.Modifier;
import java.util.Arrays;
import java.util.Set;
import java.util.TreeSet;

/** The class has the document's face and no other member that is not private. */
public final class FaceTest {
    private static final Set<String> FACE = new TreeSet<>(Arrays.asList(
            "int put(int,int,int,int,boolean) IllegalArgumentException IllegalStateException"
                    + " UnsupportedOperationException",
            "int spread(int,int,int,int,int) IllegalArgumentException",
            "int punch(int,int,int) IllegalArgumentException UnsupportedOperationException",
            "int strip(int,int,int,int) IllegalArgumentException",
            "int write(int,int,int) IllegalArgumentException IllegalStateException"
                    + " UnsupportedOperationException",
            "int look(int,int) IllegalArgumentException",
            "boolean written(int,int) IllegalArgumentException",
            "int reach(int,int) IllegalArgumentException",
            "int count(int,int) IllegalArgumentException",
            "int free()",
            "int rootByte(int,int) IllegalArgumentException IndexOutOfBoundsException",
            "int nodeByte(int,int) IndexOutOfBoundsException"));

    public static void main(String[] args) {
        Checks checks = new Checks();
        int modifiers = ExtentTree.class.getModifiers();
        checks.is("public", Modifier.isPublic(modifiers), true);
        checks.is("final", Modifier.isFinal(modifiers), true);
        checks.is("constructors", constructors(), "public ExtentTree(int)");
        Set<String> open = new TreeSet<>();
        Set<String> names = new TreeSet<>();
        for (Method method : ExtentTree.class.getDeclaredMethods()) {
            if (Modifier.isPublic(method.getModifiers())) {
                open.add(described(method));
                names.add(method.getName());
            } else {
                checks.is(method + " is private", Modifier.isPrivate(method.getModifiers()), true);
            }
        }
        checks.is("methods", open.toString(), FACE.toString());
        checkPrivates(checks, names);
        checks.end("FaceTest");
    }

    private static void checkPrivates(Checks checks, Set<String> names) {
        for (Field field : ExtentTree.class.getDeclaredFields()) {
            checks.is(field + " is private", Modifier.isPrivate(field.getModifiers()), true);
        }
        for (Method method : ExtentTree.class.getDeclaredMethods()) {
            if (!Modifier.isPublic(method.getModifiers())) {
                checks.is(method + " has a name of its own", names.contains(method.getName()),
                        false);
            }
        }
        for (Class<?> inner : ExtentTree.class.getDeclaredClasses()) {
            checks.is(inner + " is static", Modifier.isStatic(inner.getModifiers()), true);
            for (Method method : inner.getDeclaredMethods()) {
                checks.is(method + " has a name of its own", names.contains(method.getName()),
                        false);
            }
        }
    }

    private static String constructors() {
        StringBuilder text = new StringBuilder();
        for (Constructor<?> constructor : ExtentTree.class.getDeclaredConstructors()) {
            text.append(constructor);
        }
        return text.toString();
    }

    private static String described(Method method) {
        StringBuilder text = new StringBuilder();
        text.append(method.getReturnType().getSimpleName()).append(' ').append(method.getName());
        text.append('(');
        String comma = "";
        for (Class<?> type : method.getParameterTypes()) {
            text.append(comma).append(type.getSimpleName());
            comma = ",";
        }
        text.append(')');
        for (Class<?> type : method.getExceptionTypes()) {
            text.append(' ').append(type.getSimpleName());
        }
        return text.toString();
    }
}
