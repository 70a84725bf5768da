import java.lang.reflect.Constructor;
import java.lang.reflect.Field;
import java.lang.reflect.Method;
import java.lang.reflect.Modifier;
import java.util.Arrays;
import java.util.Set;
import java.util.TreeSet;

/** The public face is the document's, and nothing else of the class can be seen from outside. */
final class FaceTest {
    private static final String[] FACE = {
        "void tube(int, int, int, int) IllegalArgumentException IllegalStateException",
        "void station(int, int, int) IllegalArgumentException IllegalStateException",
        "void bay(int, int, int, int, int) IllegalArgumentException IllegalStateException",
        "int seal() IllegalStateException",
        "int send(int, int, int) IllegalArgumentException IllegalStateException",
        "int take(int) IllegalArgumentException NoSuchElementException",
        "int tick(int) IllegalArgumentException IllegalStateException",
        "void stick(int, int, boolean) IllegalArgumentException IllegalStateException",
        "boolean close(int, boolean) IllegalArgumentException IllegalStateException",
        "int job(int, int) NoSuchElementException IllegalArgumentException",
        "int ahead(int, int) NoSuchElementException IllegalArgumentException",
        "int stuck(int, int) NoSuchElementException IllegalArgumentException",
        "int time(int, int) IllegalArgumentException IllegalStateException",
        "int count(int)",
    };

    public static void main(String[] args) {
        Class<?> desk = TubeDesk.class;
        Check.due("public and final", Modifier.PUBLIC | Modifier.FINAL, desk.getModifiers());
        Constructor<?>[] constructors = desk.getDeclaredConstructors();
        Check.due("constructors", 1, constructors.length);
        Check.due("the constructor is public", true, Modifier.isPublic(constructors[0].getModifiers()));
        Check.due("and takes nothing", 0, constructors[0].getParameterCount());
        methods(desk);
        for (Field field : desk.getDeclaredFields()) {
            Check.due(field + " is private", true, Modifier.isPrivate(field.getModifiers()));
        }
        for (Class<?> inside : desk.getDeclaredClasses()) {
            boolean hidden = !Modifier.isPublic(inside.getModifiers()) && !Modifier.isProtected(inside.getModifiers());
            Check.due(inside + " is hidden", true, hidden);
            Check.due(inside + " is static", true, Modifier.isStatic(inside.getModifiers()));
        }
        Check.end();
    }

    private static void methods(Class<?> desk) {
        Set<String> want = new TreeSet<>(Arrays.asList(FACE));
        Set<String> names = new TreeSet<>();
        for (Method method : desk.getDeclaredMethods()) {
            if (Modifier.isPublic(method.getModifiers())) {
                Check.due(written(method) + " is of the face", true, want.remove(written(method)));
                names.add(method.getName());
            } else {
                Check.due(method + " is private", true, Modifier.isPrivate(method.getModifiers()));
            }
        }
        Check.due("missing: " + want, 0, want.size());
        for (Method method : desk.getDeclaredMethods()) {
            boolean likePublic = !Modifier.isPublic(method.getModifiers()) && names.contains(method.getName());
            Check.due(method + " has a name of the face", false, likePublic);
        }
    }

    private static String written(Method method) {
        StringBuilder text = new StringBuilder();
        text.append(method.getReturnType()).append(' ').append(method.getName()).append('(');
        String between = "";
        for (Class<?> parameter : method.getParameterTypes()) {
            text.append(between).append(parameter);
            between = ", ";
        }
        text.append(')');
        for (Class<?> thrown : method.getExceptionTypes()) {
            text.append(' ').append(thrown.getSimpleName());
        }
        return text.toString();
    }
}
