import java.lang.reflect.Constructor;
import java.lang.reflect.Field;
import java.lang.reflect.Method;
import java.lang.reflect.Modifier;
import java.util.Arrays;
import java.util.TreeSet;

/** The public face: what the document lists, and nothing else. */
public final class FaceTest {
    private static final String INDEX = "IndexOutOfBoundsException";
    private static final String ARGUMENT = "IllegalArgumentException";
    private static final String STATE = "IllegalStateException";

    private static final String[] FACE = {
        "int define(int) " + INDEX + " " + ARGUMENT,
        "int remove(int) " + INDEX + " " + STATE,
        "int exchange(int,int) " + INDEX,
        "int set(int) " + ARGUMENT,
        "int expand() " + ARGUMENT,
        "int append(int) " + ARGUMENT + " " + STATE,
        "int clearBuffer()",
        "int firstError()",
        "int load(int) " + INDEX + " " + STATE,
        "int undo() " + STATE,
        "int keep(int) " + ARGUMENT,
        "int goBack(int) " + ARGUMENT + " " + STATE,
        "int body(int,int) " + INDEX + " " + ARGUMENT,
        "int uses(int,int) " + INDEX + " " + ARGUMENT,
        "int rings()",
        "int missing()",
        "int chain(int) " + INDEX,
        "int ifDefined(int) " + INDEX + " " + ARGUMENT,
        "int sign(int) " + ARGUMENT,
        "int result(int) " + ARGUMENT,
        "int trace(int,int) " + ARGUMENT,
        "int lengthOf(int,int) " + INDEX + " " + ARGUMENT,
        "int count(int) " + ARGUMENT,
        "double meanHoles()",
    };

    public static void main(String[] args) {
        Class<?> face = AbbreviationBook.class;
        Checks.due("the class is public and final", Modifier.PUBLIC | Modifier.FINAL,
                face.getModifiers() & (Modifier.PUBLIC | Modifier.FINAL));
        theMethods(face);
        theConstructor(face);
        theFields(face);
        Checks.end();
    }

    private static void theMethods(Class<?> face) {
        TreeSet<String> found = new TreeSet<>();
        TreeSet<String> names = new TreeSet<>();
        for (Method method : face.getDeclaredMethods()) {
            if (!Modifier.isPrivate(method.getModifiers()) && !method.isSynthetic()) {
                Checks.due(method + " is a public method of objects", Modifier.PUBLIC, method.getModifiers());
                found.add(described(method));
                names.add(method.getName());
            }
        }
        Checks.due("the methods", new TreeSet<>(Arrays.asList(FACE)), found);
        for (Method method : face.getDeclaredMethods()) {
            if (Modifier.isPrivate(method.getModifiers())) {
                Checks.due(method + " bears the name of a public one", false, names.contains(method.getName()));
            }
        }
    }

    private static String described(Method method) {
        StringBuilder text = new StringBuilder();
        text.append(method.getReturnType().getSimpleName()).append(' ').append(method.getName()).append('(');
        for (int i = 0; i < method.getParameterCount(); i++) {
            text.append(i == 0 ? "" : ",").append(method.getParameterTypes()[i].getSimpleName());
        }
        text.append(')');
        for (Class<?> thrown : method.getExceptionTypes()) {
            text.append(' ').append(thrown.getSimpleName());
        }
        return text.toString();
    }

    private static void theConstructor(Class<?> face) {
        Constructor<?>[] constructors = face.getDeclaredConstructors();
        Checks.due("one constructor", 1, constructors.length);
        Checks.due("it is public", Modifier.PUBLIC, constructors[0].getModifiers());
        Checks.due("its parameters", 0, constructors[0].getParameterCount());
        Checks.due("its exceptions", 0, constructors[0].getExceptionTypes().length);
    }

    private static void theFields(Class<?> face) {
        for (Field field : face.getDeclaredFields()) {
            boolean isNone = field.getName().equals("NONE");
            Checks.due(field + " is in the face", isNone, !Modifier.isPrivate(field.getModifiers()));
            if (isNone) {
                Checks.due("NONE", Modifier.PUBLIC | Modifier.STATIC | Modifier.FINAL, field.getModifiers());
            }
        }
    }
}
