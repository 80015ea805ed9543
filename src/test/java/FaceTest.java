import java.lang.reflect.Constructor;
import java.lang.reflect.Field;
import java.lang.reflect.Method;
import java.lang.reflect.Modifier;
import java.util.Arrays;
import java.util.TreeSet;
import java.util.function.ToDoubleFunction;

/** The public face: what the document lists, and nothing else; an object's last call. */
public final class FaceTest {
    private static final String INDEX = "IndexOutOfBoundsException";
    private static final String ARGUMENT = "IllegalArgumentException";
    private static final String STATE = "IllegalStateException";

    private static final String[] FACE = {
        "int define(int) " + INDEX + " " + ARGUMENT,
        "int remove(int) " + INDEX + " " + STATE,
        "int exchange(int,int) " + INDEX,
        "int set(int) " + ARGUMENT,
        "int expand() " + ARGUMENT,
        "int append(int) " + ARGUMENT + " " + STATE,
        "int clearBuffer()",
        "int firstError()",
        "int load(int) " + INDEX + " " + STATE,
        "int undo() " + STATE,
        "int keep(int) " + ARGUMENT,
        "int goBack(int) " + ARGUMENT + " " + STATE,
        "int body(int,int) " + INDEX + " " + ARGUMENT,
        "int uses(int,int) " + INDEX + " " + ARGUMENT,
        "int rings()",
        "int missing()",
        "int chain(int) " + INDEX,
        "int ifDefined(int) " + INDEX + " " + ARGUMENT,
        "int sign(int) " + ARGUMENT,
        "int result(int) " + ARGUMENT,
        "int trace(int,int) " + ARGUMENT,
        "int lengthOf(int,int) " + INDEX + " " + ARGUMENT,
        "int count(int) " + ARGUMENT,
        "double meanHoles()",
    };

    public static void main(String[] args) {
        Class<?> face = AbbreviationBook.class;
        Checks.due("the class is public and final", Modifier.PUBLIC | Modifier.FINAL,
                face.getModifiers() & (Modifier.PUBLIC | Modifier.FINAL));
        theMethods(face);
        theConstructor(face);
        theFields(face);
        theLastCallIsAnswered();
        Checks.end();
    }

    private static void theMethods(Class<?> face) {
        TreeSet<String> found = new TreeSet<>();
        TreeSet<String> names = new TreeSet<>();
        for (Method method : face.getDeclaredMethods()) {
            if (!Modifier.isPrivate(method.getModifiers()) && !method.isSynthetic()) {
                Checks.due(method + " is a public method of objects", Modifier.PUBLIC, method.getModifiers());
                found.add(described(method));
                names.add(method.getName());
            }
        }
        Checks.due("the methods", new TreeSet<>(Arrays.asList(FACE)), found);
        for (Method method : face.getDeclaredMethods()) {
            if (Modifier.isPrivate(method.getModifiers())) {
                Checks.due(method + " bears the name of a public one", false, names.contains(method.getName()));
            }
        }
    }

    private static String described(Method method) {
        StringBuilder text = new StringBuilder();
        text.append(method.getReturnType().getSimpleName()).append(' ').append(method.getName()).append('(');
        for (int i = 0; i < method.getParameterCount(); i++) {
            text.append(i == 0 ? "" : ",").append(method.getParameterTypes()[i].getSimpleName());
        }
        text.append(')');
        for (Class<?> thrown : method.getExceptionTypes()) {
            text.append(' ').append(thrown.getSimpleName());
        }
        return text.toString();
    }

    private static void theConstructor(Class<?> face) {
        Constructor<?>[] constructors = face.getDeclaredConstructors();
        Checks.due("one constructor", 1, constructors.length);
        Checks.due("it is public", Modifier.PUBLIC, constructors[0].getModifiers());
        Checks.due("its parameters", 0, constructors[0].getParameterCount());
        Checks.due("its exceptions", 0, constructors[0].getExceptionTypes().length);
    }

    private static void theFields(Class<?> face) {
        for (Field field : face.getDeclaredFields()) {
            boolean isNone = field.getName().equals("NONE");
            Checks.due(field + " is in the face", isNone, !Modifier.isPrivate(field.getModifiers()));
            if (isNone) {
                Checks.due("NONE", Modifier.PUBLIC | Modifier.STATIC | Modifier.FINAL, field.getModifiers());
            }
        }
    }

    // "An object is used for at most 512 calls": the last one is answered as those before.
    private static void theLastCallIsAnswered() {
        dueAsTheLast("define", 0, book -> book.define(1));
        dueAsTheLast("remove", 0, book -> book.remove(0));
        dueAsTheLast("exchange", 1, book -> book.exchange(0, 1));
        dueAsTheLast("set", 8, book -> book.set(12));
        dueAsTheLast("expand", 3, Book::expand);
        dueAsTheLast("append", 5, book -> book.append('b'));
        dueAsTheLast("clearBuffer", 4, Book::clearBuffer);
        dueAsTheLast("firstError", 4, Book::firstError);
        dueAsTheLast("load", 3, book -> book.load(0));
        dueAsTheLast("undo", 5, Book::undo);
        dueAsTheLast("keep", 1, book -> book.keep(1));
        dueAsTheLast("goBack", 1, book -> book.goBack(0));
        dueAsTheLast("body", 3, book -> book.body(0, 0));
        dueAsTheLast("uses", Checks.set("B"), book -> book.uses(0, 0));
        dueAsTheLast("rings", 0, Book::rings);
        dueAsTheLast("missing", Checks.set("B"), Book::missing);
        dueAsTheLast("chain", 1, book -> book.chain(0));
        dueAsTheLast("ifDefined", Checks.set("AB"), book -> book.ifDefined(1));
        dueAsTheLast("sign", 'x', book -> book.sign(1));
        dueAsTheLast("result", 3, book -> book.result(0));
        dueAsTheLast("trace", 1, book -> book.trace(0, 2));
        dueAsTheLast("lengthOf", 22, book -> book.lengthOf(0, 20));
        dueAsTheLast("count", 502, book -> book.count(3));
        dueAsTheLast("meanHoles", 1.0, Book::meanHoles);
    }

    private static void dueAsTheLast(String call, double want, ToDoubleFunction<Book> answer) {
        Book book = new Book();
        for (char sign : "a?B".toCharArray()) {
            book.append(sign);
        }
        book.define(0);
        for (char sign : "A(x)".toCharArray()) {
            book.append(sign);
        }
        book.keep(0);
        for (int i = 10; i < 512; i++) {
            book.expand();
        }
        Checks.due(call + " as the 512th call", want, answer.applyAsDouble(book));
        boolean isLast = false;
        try {
            book.rings();
        } catch (AssertionError e) {
            isLast = true;
        }
        Checks.due(call + " is the 512th call", true, isLast);
    }
}
