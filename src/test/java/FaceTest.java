import java.lang.reflect.Constructor;
import java.lang.reflect.Field;
import java.lang.reflect.Method;
import java.lang.reflect.Modifier;
import java.util.Set;
import java.util.TreeSet;

/** The class shows the document's public face, and nothing besides. */
public final class FaceTest {
    private static final String[] FACE = {
        "put 2", "series 4", "remove 1", "clear 2", "slide 3", "raise 3", "size 0", "has 1", "get 1", "rank 1",
        "select 1", "next 1", "previous 1", "count 2", "sum 2", "best 2", "closest 0", "gap 1"
    };

    public static void main(String[] args) {
        Class<?> face = PackedArray.class;
        Check.due("modifiers of the class", Modifier.toString(face.getModifiers()), "public final");
        Check.due("nested classes", face.getDeclaredClasses().length, 0);
        Check.due("superclass", face.getSuperclass(), Object.class);
        Check.due("interfaces", face.getInterfaces().length, 0);
        methods(face);
        constructors(face);
        fields(face);
        Check.end();
    }

    private static void methods(Class<?> face) {
        Set<String> open = new TreeSet<>();
        Set<String> openNames = new TreeSet<>();
        for (Method method : face.getDeclaredMethods()) {
            if (Modifier.isPrivate(method.getModifiers())) {
                continue;
            }
            open.add(method.getName() + " " + method.getParameterCount());
            openNames.add(method.getName());
            Check.due("modifiers of " + method, Modifier.toString(method.getModifiers()), "public");
            Check.due("answer of " + method, method.getReturnType(), int.class);
            for (Class<?> type : method.getParameterTypes()) {
                Check.due("argument of " + method, type, int.class);
            }
        }
        Check.due("methods", open, new TreeSet<>(Set.of(FACE)));
        for (Method method : face.getDeclaredMethods()) {
            boolean hidden = Modifier.isPrivate(method.getModifiers());
            Check.due(method + " bears a public name", hidden && openNames.contains(method.getName()), false);
        }
    }

    private static void constructors(Class<?> face) {
        Check.due("constructors", face.getDeclaredConstructors().length, 1);
        for (Constructor<?> constructor : face.getDeclaredConstructors()) {
            Check.due("constructor", constructor.toString(), "public PackedArray()");
        }
    }

    private static void fields(Class<?> face) {
        for (Field field : face.getDeclaredFields()) {
            Check.due(field + " is private", Modifier.isPrivate(field.getModifiers()), true);
        }
    }
}
