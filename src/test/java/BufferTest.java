import java.util.function.Supplier;

/** Promises 7 to 10: append, clearBuffer, firstError, load. */
public final class BufferTest {
    public static void main(String[] args) {
        appendTakesCodes();
        appendRefuses();
        clearBufferAnswersTheLength();
        firstErrorFindsIt();
        firstErrorChangesNothing();
        loadPutsTheBody();
        loadRefuses();
        theBufferIsNotUndone();
        Checks.end();
    }

    private static void appendTakesCodes() {
        Book book = new Book();
        for (int i = 0; i < 60; i++) {
            Checks.due("append " + i, i + 1, book.append(33 + i));
        }
        Checks.due("the length", 60, book.count(7));
        book.clearBuffer();
        Checks.due("the lowest code", 1, book.append(33));
        Checks.due("the highest code", 2, book.append(126));
        Checks.due("append saves no state", 0, book.count(6));
        Checks.type(book, "xyz");
        book.expand();
        Checks.due("the characters in their order", "xyz", Checks.resultOf(book));
    }

    private static void appendRefuses() {
        for (int code : new int[] {32, 127, 0, -1, 256, 'a' + 65536, Integer.MIN_VALUE, Integer.MAX_VALUE}) {
            Checks.refuses("append(" + code + ")", IllegalArgumentException.class,
                    typed("ab"), book -> book.append(code));
            Checks.refuses("append(" + code + ") to a full buffer", IllegalArgumentException.class,
                    typed("a".repeat(60)), book -> book.append(code));
        }
        for (int code : new int[] {33, 'a', 126}) {
            Checks.refuses("append(" + code + ") to a full buffer", IllegalStateException.class,
                    typed("a".repeat(60)), book -> book.append(code));
        }
    }

    private static void clearBufferAnswersTheLength() {
        Book book = new Book();
        Checks.due("clearing the empty buffer", 0, book.clearBuffer());
        Checks.type(book, "A(b");
        Checks.due("clearing", 3, book.clearBuffer());
        Checks.due("it is empty", 0, book.count(7));
        Checks.due("clearing once more", 0, book.clearBuffer());
        Checks.type(book, "a".repeat(60));
        Checks.due("clearing the full buffer", 60, book.clearBuffer());
        Checks.due("clearBuffer saves no state", 0, book.count(6));
        Checks.due("an empty text", 0, book.expand());
    }

    private static void firstErrorFindsIt() {
        dueNoError("", "a", "azm_", "?", "A", "AZ", "A()", "A(b)", "A(,)", "A(,,,,,)", "A(?,B(C(d,e),),)A(f)",
                "A(B(,,,,,),C(,,,,,),,,,)", "A()A()", "A(", "A(b,", "A(B(C(", "A(B(),", "A(".repeat(30),
                "a".repeat(60));
        dueError("", ")", ",", "(", "1", "#", "$", "%", "!", "~", "@", "[", "`", "{", "^", "\\");
        dueError("a", ")", ",", "(", "0");
        dueError("_", "(");
        dueError("?", "(", ",");
        dueError("A", ")", ",");
        dueError("A()", "(", ")", ",");
        dueError("A(", "(", "*");
        dueError("A(b", "(");
        dueError("A(,", "(");
        dueError("A(,,,,,", ",");
        dueError("A(B(,,,,,", ",");
        dueError("A(,,,,,B(,,,,,)", ",", "(");
        dueError("A(B(),,,,,C(,)", ",");
        dueError("A(b)c", ")", ",");
        dueError("A(B)", "(");
        Book book = new Book();
        Checks.type(book, "a)),");
        Checks.due("the first one of many", 1, book.firstError());
    }

    private static void dueNoError(String... texts) {
        for (String text : texts) {
            Book book = new Book();
            Checks.type(book, text);
            Checks.due("firstError of " + text, text.length(), book.firstError());
        }
    }

    /** The error is the first of the wrong characters, whatever comes behind it. */
    private static void dueError(String before, String... wrongOnes) {
        for (String wrong : wrongOnes) {
            for (String behind : new String[] {"", "b", ")", "A(c)"}) {
                Book book = new Book();
                Checks.type(book, before + wrong + behind);
                Checks.due("firstError of " + before + wrong + behind, before.length(), book.firstError());
            }
        }
    }

    private static void firstErrorChangesNothing() {
        Book asked = typed("A(b)!").get();
        asked.firstError();
        Checks.due("firstError changes nothing",
                Checks.factsOf(typed("A(b)!").get()), Checks.factsOf(asked));
    }

    private static void loadPutsTheBody() {
        Book book = Checks.book("A=aB()C(?,D,)_E", "B=", "C=" + "x?".repeat(30));
        Checks.type(book, "A(b");
        Checks.due("load(0)", 13, book.load(0));
        Checks.due("the length", 13, book.count(7));
        Checks.due("no error", 13, book.firstError());
        Checks.due("define as Z", 1, book.define(25));
        for (int what = 0; what <= 5; what++) {
            Checks.due("body of Z, " + what, book.body(0, what), book.body(25, what));
        }
        Checks.due("it calls the same", Checks.set("BCDE"), book.uses(25, 0));
        book.load(2);
        Checks.due("sixty characters", 60, book.count(7));
        Checks.dueThrow("it is full", IllegalStateException.class, () -> book.append('a'));
        book.expand();
        Checks.due("they are the body", "x?".repeat(30), Checks.resultOf(book));
        Checks.due("load of an empty body", 0, book.load(1));
        Checks.due("the empty buffer", 0, book.count(7));
        book.load(0);
        book.append('z');
        Checks.due("the body stays as it is", 13, book.body(0, 0));
    }

    private static void loadRefuses() {
        for (int letter : new int[] {-1, 26, Integer.MIN_VALUE, Integer.MAX_VALUE}) {
            Checks.refuses("load(" + letter + ")", IndexOutOfBoundsException.class,
                    typed("A(b"), book -> book.load(letter));
        }
        Checks.refuses("load of what is not defined", IllegalStateException.class,
                typed("A(b"), book -> book.load(25));
    }

    private static void theBufferIsNotUndone() {
        Book book = Checks.book("A=abc");
        book.set(3);
        book.load(0);
        book.undo();
        Checks.due("the buffer after undo", 3, book.count(7));
        Checks.due("load saves no state", 1, book.count(6));
        book.keep(0);
        book.append('d');
        book.goBack(0);
        Checks.due("the buffer after goBack", 4, book.count(7));
        book.expand();
        Checks.due("its text", "abcd", Checks.resultOf(book));
    }

    private static Supplier<Book> typed(String text) {
        return () -> {
            Book book = Checks.book("A=a?", "B=A(b)");
            Checks.expand(book, "B");
            Checks.type(book, text);
            return book;
        };
    }
}
