import java.lang.reflect.Constructor;
import java.lang.reflect.Field;
import java.lang.reflect.Method;
import java.lang.reflect.Modifier;
import java.util.Set;
import java.util.TreeSet;

/** The class shows the document's face and nothing else. */
public final class FaceTest {
    private static final Set<String> FACE = new TreeSet<>(Set.of(
        "feed(int,int,int,int,int)", "read(int)", "range(int,int)", "order(int)", "combine(int,int,int,int)",
        "inside(int,int)", "holds(int,int)", "write(int,int)", "octet(int)", "resolve(boolean)", "chosen(int)",
        "reason(int)", "solutions(int)", "why(int)", "count(int)"));

    public static void main(String[] args) {
        Due due = new Due();
        Class<?> face = RangeResolver.class;
        due.is("public and final", Modifier.PUBLIC | Modifier.FINAL, face.getModifiers());
        Set<String> methods = new TreeSet<>();
        Set<String> names = new TreeSet<>();
        for (Method method : face.getDeclaredMethods()) {
            if (!Modifier.isPrivate(method.getModifiers())) {
                String call = method.toString();
                methods.add(call.substring(call.lastIndexOf("RangeResolver.") + "RangeResolver.".length()));
                names.add(method.getName());
                due.is(call, "public int", Modifier.toString(method.getModifiers()) + " " + method.getReturnType());
            }
        }
        for (Method method : face.getDeclaredMethods()) {
            boolean hidden = Modifier.isPrivate(method.getModifiers());
            due.is(method + " bears no name of the face", 0, hidden && names.contains(method.getName()) ? 1 : 0);
        }
        due.is("methods", FACE.toString(), methods.toString());
        due.is("constructors", 1, face.getDeclaredConstructors().length);
        for (Constructor<?> constructor : face.getDeclaredConstructors()) {
            due.is("constructor", "public RangeResolver()", constructor.toString());
        }
        for (Field field : face.getDeclaredFields()) {
            boolean hidden = Modifier.isPrivate(field.getModifiers());
            due.is(field.toString(), hidden ? field.toString() : "public static final int RangeResolver.NONE", field.toString());
            checkStatic(due, field);
        }
        checkInside(due, face, names);
        due.end();
    }

    private static void checkInside(Due due, Class<?> face, Set<String> names) {
        due.is("at most twelve classes", 1, face.getDeclaredClasses().length < 12 ? 1 : 0);
        for (Class<?> inside : face.getDeclaredClasses()) {
            due.is(inside + " is static", 1, Modifier.isStatic(inside.getModifiers()) ? 1 : 0);
            due.is(inside + " is hidden", 0, inside.getModifiers() & (Modifier.PUBLIC | Modifier.PROTECTED));
            int fields = 0;
            for (Field field : inside.getDeclaredFields()) {
                fields += Modifier.isStatic(field.getModifiers()) ? 0 : 1;
                checkStatic(due, field);
            }
            due.is(inside + " has at most twenty fields", 1, fields <= 20 ? 1 : 0);
            for (Method method : inside.getDeclaredMethods()) {
                due.is(method + " bears no name of the face", 0, names.contains(method.getName()) ? 1 : 0);
                due.is(method + " has at most seven parameters", 1, method.getParameterCount() <= 7 ? 1 : 0);
            }
        }
    }

    /** Static fields are constants. */
    private static void checkStatic(Due due, Field field) {
        if (Modifier.isStatic(field.getModifiers())) {
            due.is(field + " is final", 1, Modifier.isFinal(field.getModifiers()) ? 1 : 0);
            Set<Class<?>> types = Set.of(int.class, long.class, boolean.class, char.class, String.class);
            due.is(field + " is a constant", 1, types.contains(field.getType()) ? 1 : 0);
        }
    }
}
