import java.lang.reflect.Constructor;
import java.lang.reflect.Field;
import java.lang.reflect.Method;
import java.lang.reflect.Modifier;
import java.util.Arrays;
import java.util.Set;
import java.util.TreeSet;

/** The class has the document's face and no other member that is not private. */
public final class FaceTest {
    private static final String[] FACE = {
        "void object(int, int, boolean) IllegalArgumentException",
        "void copy(int, int) IllegalArgumentException",
        "boolean same(int, int) IllegalArgumentException",
        "void operand(int, long) IllegalArgumentException",
        "int kind()",
        "long bits() IllegalStateException",
        "void hold(int) IllegalArgumentException IllegalStateException",
        "int get(int, long) IllegalArgumentException",
        "int put(int, long) IllegalArgumentException",
        "int define(int, long, int, int, int, int) IllegalArgumentException",
        "int own(int, long) IllegalArgumentException",
        "boolean setter(int, long, int) IllegalArgumentException",
        "boolean has(int, long) IllegalArgumentException",
        "boolean delete(int, long) IllegalArgumentException",
        "int keys(int) IllegalArgumentException",
        "long key(int, int) IllegalArgumentException",
        "void lock(int, int) IllegalArgumentException",
        "boolean locked(int, int) IllegalArgumentException",
        "void prototype(int, int) IllegalArgumentException",
        "void stress(int) IllegalArgumentException",
    };

    public static void main(String[] args) {
        Check check = new Check("FaceTest");
        check.due("the class is public and final",
                PropertyStore.class.getModifiers(), Modifier.PUBLIC | Modifier.FINAL);
        Set<String> found = new TreeSet<>();
        Set<String> names = new TreeSet<>();
        for (Method m : PropertyStore.class.getDeclaredMethods()) {
            if (!Modifier.isPrivate(m.getModifiers())) {
                found.add(line(m));
                names.add(m.getName());
            }
        }
        check.due("the methods", found.toString(), new TreeSet<>(Arrays.asList(FACE)).toString());
        for (Method m : PropertyStore.class.getDeclaredMethods()) {
            boolean hidden = Modifier.isPrivate(m.getModifiers());
            check.due(m.getName() + " is private and named as a public one", hidden && names.contains(m.getName()), false);
        }
        for (Field f : PropertyStore.class.getDeclaredFields()) {
            check.due("field " + f.getName() + " is private", Modifier.isPrivate(f.getModifiers()), true);
        }
        Constructor<?>[] constructors = PropertyStore.class.getDeclaredConstructors();
        check.due("constructors", constructors.length, 1);
        check.due("the constructor is public", constructors[0].getModifiers(), Modifier.PUBLIC);
        check.due("the constructor's parameters", constructors[0].getParameterCount(), 0);
        check.end();
    }

    private static String line(Method m) {
        StringBuilder text = new StringBuilder();
        text.append(m.getReturnType().getSimpleName()).append(' ').append(m.getName()).append('(');
        String comma = "";
        for (Class<?> c : m.getParameterTypes()) {
            text.append(comma).append(c.getSimpleName());
            comma = ", ";
        }
        text.append(')');
        for (Class<?> c : m.getExceptionTypes()) {
            text.append(' ').append(c.getSimpleName());
        }
        return text.toString();
    }
}
