import java.util.function.Supplier;

/** Promises 1 to 5: a new object, define, remove, exchange, set. */
public final class DefinitionsTest {
    private static final int[] NO_LETTERS = {-1, 26, Integer.MIN_VALUE, Integer.MAX_VALUE};

    public static void main(String[] args) {
        newObject();
        objectsAreApart();
        defineCountsHoles();
        defineTakesTheBuffer();
        defineRefuses();
        removeTakesAway();
        removeRefuses();
        exchangeSwaps();
        exchangeRefuses();
        setChangesTheDepth();
        setRefuses();
        Checks.end();
    }

    private static void newObject() {
        Book book = new Book();
        Checks.due("NONE", -1, AbbreviationBook.NONE);
        Checks.due("counts of a new book", "0 0 8 0 0 0 0 0", Checks.countsOf(book));
        for (int what = 0; what <= 7; what++) {
            Checks.due("result of a new book", 0, book.result(what));
        }
        Checks.due("sign(0) of a new book", -1, book.sign(0));
        for (int what = 0; what <= 5; what++) {
            Checks.due("trace of a new book", -1, book.trace(0, what));
        }
        for (int letter = 0; letter < 26; letter++) {
            Checks.due("body in a new book", -1, book.body(letter, 0));
        }
        Checks.due("firstError of a new book", 0, book.firstError());
        Checks.dueThrow("undo of a new book", IllegalStateException.class, book::undo);
        Checks.dueThrow("goBack(0) of a new book", IllegalStateException.class, () -> book.goBack(0));
        Checks.dueThrow("goBack(1) of a new book", IllegalStateException.class, () -> book.goBack(1));
        Checks.due("meanHoles of a new book", 0.0, book.meanHoles());
    }

    private static void objectsAreApart() {
        Book one = Checks.book("A=a?");
        Book other = new Book();
        one.set(3);
        Checks.expand(one, "A(b)");
        one.keep(0);
        Checks.due("the other book", "0 0 8 0 0 0 0 0", Checks.countsOf(other));
        Checks.due("the other book's result", 0, other.result(0));
        Checks.dueThrow("the other book's slot", IllegalStateException.class, () -> other.goBack(0));
    }

    private static void defineCountsHoles() {
        Book book = new Book();
        Checks.due("no holes", 0, Checks.define(book, "A=abc_"));
        Checks.due("no signs", 0, Checks.define(book, "B="));
        Checks.due("two holes", 2, Checks.define(book, "C=a?b?c"));
        Checks.due("holes in arguments", 5, Checks.define(book, "Z=?A(?,B(?)?)?"));
        Checks.due("more than six holes", 8, Checks.define(book, "D=????????"));
        Checks.due("sixty holes", 60, Checks.define(book, "E=" + "?".repeat(60)));
        Checks.due("the set of these", Checks.set("ABCDEZ"), book.count(1));
    }

    private static void defineTakesTheBuffer() {
        Book book = new Book();
        Checks.type(book, "a?");
        Checks.due("define", 1, book.define(0));
        Checks.due("the buffer is cleared", 0, book.count(7));
        Checks.due("define with the empty buffer", 0, book.define(1));
        Checks.due("A", 2, book.body(0, 0));
        Checks.due("B", 0, book.body(1, 0));
        Checks.define(book, "A=xyz");
        Checks.due("A in place of what it was", "xyz", Checks.expand(book, "A"));
        Checks.due("two are defined", 2, book.count(0));
        Checks.due("saved by each define and the expand", 4, book.count(6));
        book.undo();
        book.undo();
        Checks.due("A as it was", 2, book.body(0, 0));
        book.undo();
        book.undo();
        Checks.due("none is defined", 0, book.count(0));
        Checks.due("the buffer is no part of the state", 1, book.count(7));
    }

    private static void defineRefuses() {
        for (String text : new String[] {"a", "A(", "a)"}) {
            for (int letter : NO_LETTERS) {
                Checks.refuses("define(" + letter + ") of " + text, IndexOutOfBoundsException.class,
                        typed(text), book -> book.define(letter));
            }
        }
        for (String text : new String[] {"A(", "A(b", "A(B(c)", "a)", ",", "(", "A(,,,,,,)", "a1", "#", "A()()"}) {
            Checks.refuses("define of " + text, IllegalArgumentException.class,
                    typed(text), book -> book.define(0));
            Checks.refuses("define of " + text, IllegalArgumentException.class,
                    typed(text), book -> book.define(25));
        }
    }

    private static void removeTakesAway() {
        Book book = Checks.book("A=a", "B=b", "Z=A");
        Checks.due("remove(25)", 2, book.remove(25));
        Checks.due("remove(0)", 1, book.remove(0));
        Checks.due("B is left", Checks.set("B"), book.count(1));
        Checks.due("A is not defined", "$b", Checks.expand(book, "AB"));
        Checks.due("the buffer stays", 2, book.count(7));
        Checks.due("remove(1)", 0, book.remove(1));
        Checks.due("saved", 6, book.count(6));
        book.undo();
        Checks.due("B is there again", Checks.set("B"), book.count(1));
        book.undo();
        book.undo();
        Checks.due("A is there again", Checks.set("AB"), book.count(1));
    }

    private static void removeRefuses() {
        for (int letter : NO_LETTERS) {
            Checks.refuses("remove(" + letter + ")", IndexOutOfBoundsException.class,
                    typed("b"), book -> book.remove(letter));
        }
        Checks.refuses("remove of what is not defined", IllegalStateException.class,
                typed("b"), book -> book.remove(25));
        Checks.refuses("remove once more", IllegalStateException.class, () -> {
            Book book = Checks.book("A=a");
            book.remove(0);
            return book;
        }, book -> book.remove(0));
    }

    private static void exchangeSwaps() {
        Book book = Checks.book("A=aB", "B=b?");
        Checks.due("both are defined", 2, book.exchange(0, 1));
        Checks.due("calls in bodies stay as they are", "a#", Checks.expand(book, "B"));
        Checks.due("A is what B was", "bx", Checks.expand(book, "A(x)"));
        Checks.due("one is defined", 1, book.exchange(0, 25));
        Checks.due("A has gone to Z", Checks.set("BZ"), book.count(1));
        Checks.due("one is defined, the other way", 1, book.exchange(0, 25));
        Checks.due("and back", Checks.set("AB"), book.count(1));
        Checks.due("none is defined", 0, book.exchange(5, 6));
        Checks.due("the same, defined", 2, book.exchange(1, 1));
        Checks.due("the same, not defined", 0, book.exchange(25, 25));
        Checks.due("nothing else", Checks.set("AB"), book.count(1));
        Checks.due("each one saved, even if nothing changes", 6, book.count(6));
        for (int i = 0; i < 5; i++) {
            book.undo();
        }
        Checks.due("before A went to Z", Checks.set("AB"), book.count(1));
        Checks.due("B is still what A was", Checks.set("B"), book.uses(1, 0));
    }

    private static void exchangeRefuses() {
        for (int letter : NO_LETTERS) {
            Checks.refuses("exchange(" + letter + ", 0)", IndexOutOfBoundsException.class,
                    typed("b"), book -> book.exchange(letter, 0));
            Checks.refuses("exchange(0, " + letter + ")", IndexOutOfBoundsException.class,
                    typed("b"), book -> book.exchange(0, letter));
        }
    }

    private static void setChangesTheDepth() {
        Book book = new Book();
        Checks.due("set(1)", 8, book.set(1));
        Checks.due("set(12)", 1, book.set(12));
        Checks.due("set(12) again", 12, book.set(12));
        Checks.due("the setting", 12, book.count(2));
        Checks.due("saved, even if nothing changes", 3, book.count(6));
        book.undo();
        book.undo();
        Checks.due("the setting before", 1, book.count(2));
        book.undo();
        Checks.due("the setting at first", 8, book.count(2));
    }

    private static void setRefuses() {
        for (int depth : new int[] {0, 13, -1, Integer.MIN_VALUE, Integer.MAX_VALUE}) {
            Checks.refuses("set(" + depth + ")", IllegalArgumentException.class,
                    typed("b"), book -> book.set(depth));
        }
    }

    /** A book with some definitions, a result and a text in its buffer. */
    private static Supplier<Book> typed(String text) {
        return () -> {
            Book book = Checks.book("A=a?", "B=A(b)");
            Checks.expand(book, "B");
            Checks.type(book, text);
            return book;
        };
    }
}
