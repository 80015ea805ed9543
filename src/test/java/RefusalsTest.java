import java.util.function.ToIntFunction;

/** Each "Throws" of the document: the first arguments that are refused, and the last that are not. */
public final class RefusalsTest {
    private static final Class<IndexOutOfBoundsException> INDEX = IndexOutOfBoundsException.class;
    private static final Class<IllegalArgumentException> ARGUMENT = IllegalArgumentException.class;
    private static final Class<IllegalStateException> STATE = IllegalStateException.class;

    private static final int[] NO_LETTERS = {-1, 26, Integer.MIN_VALUE, Integer.MAX_VALUE, 27, 31, 32, 65, 90};
    private static final String COMPLETE = "A(c)";
    private static final String INCOMPLETE = "A(c";
    private static final String WRONG = "A)";
    private static final String FULL = "c".repeat(60);
    private static final String[] BUFFERS = {COMPLETE, "", INCOMPLETE, WRONG, FULL};

    public static void main(String[] args) {
        lettersThatAreNot();
        lettersThatAre();
        lettersThatAreNotDefined();
        textsThatAreNotComplete();
        depths();
        codes();
        slots();
        undoWithoutSavedStates();
        bodyNumbers();
        useNumbers();
        indices();
        resultNumbers();
        traceNumbers();
        lengths();
        countNumbers();
        Checks.end();
    }

    /** Six states are saved, slot 0 holds a snapshot, and slot 1 is empty; A, B and Z are defined. */
    private static Book book(String text) {
        Book book = Checks.book("A=a?B", "B=b", "Z=AZ");
        book.keep(0);
        Checks.expand(book, "A(x)U");
        book.set(5);
        Checks.define(book, "C=c");
        book.remove(2);
        Checks.type(book, text);
        return book;
    }

    private static void refused(String call, Class<? extends RuntimeException> want, ToIntFunction<Book> answer) {
        for (String text : BUFFERS) {
            refusedAt(text, call, want, answer);
        }
    }

    private static void refusedAt(String text, String call, Class<? extends RuntimeException> want,
            ToIntFunction<Book> answer) {
        Checks.refuses(call + " with the buffer " + text, want, () -> book(text), answer::applyAsInt);
    }

    private static void answered(String call, int want, ToIntFunction<Book> answer) {
        Checks.due(call, Integer.toString(want), Checks.outcomeOf(() -> answer.applyAsInt(book(COMPLETE))));
    }

    // "IndexOutOfBoundsException if letter is not 0 to 25", before all that is wrong besides it.
    private static void lettersThatAreNot() {
        for (int letter : NO_LETTERS) {
            refused("define", INDEX, book -> book.define(letter));
            refused("remove", INDEX, book -> book.remove(letter));
            refused("exchange of the first", INDEX, book -> book.exchange(letter, 0));
            refused("exchange of the second", INDEX, book -> book.exchange(25, letter));
            refused("exchange of both", INDEX, book -> book.exchange(letter, letter));
            refused("load", INDEX, book -> book.load(letter));
            refused("body", INDEX, book -> book.body(letter, 5));
            refused("body of no number", INDEX, book -> book.body(letter, 6));
            refused("uses", INDEX, book -> book.uses(letter, 3));
            refused("uses of no number", INDEX, book -> book.uses(letter, -1));
            refused("chain", INDEX, book -> book.chain(letter));
            refused("ifDefined", INDEX, book -> book.ifDefined(letter));
            refused("lengthOf", INDEX, book -> book.lengthOf(letter, 20));
            refused("lengthOf of no length", INDEX, book -> book.lengthOf(letter, 21));
        }
    }

    private static void lettersThatAre() {
        answered("define(0)", 0, book -> book.define(0));
        answered("define(25)", 0, book -> book.define(25));
        answered("remove(0)", 2, book -> book.remove(0));
        answered("remove(25)", 2, book -> book.remove(25));
        answered("exchange(0, 25)", 2, book -> book.exchange(0, 25));
        answered("exchange(25, 0)", 2, book -> book.exchange(25, 0));
        answered("load(0)", 3, book -> book.load(0));
        answered("load(25)", 2, book -> book.load(25));
        answered("body(0, 0)", 3, book -> book.body(0, 0));
        answered("body(25, 0)", 2, book -> book.body(25, 0));
        answered("uses(0, 0)", Checks.set("B"), book -> book.uses(0, 0));
        answered("uses(25, 0)", Checks.set("AZ"), book -> book.uses(25, 0));
        answered("chain(0)", 2, book -> book.chain(0));
        answered("chain(25)", -1, book -> book.chain(25));
        answered("ifDefined(0)", Checks.set("AZ"), book -> book.ifDefined(0));
        answered("ifDefined(25)", 0, book -> book.ifDefined(25));
        answered("lengthOf(0, 0)", 2, book -> book.lengthOf(0, 0));
        answered("lengthOf(25, 0)", 3, book -> book.lengthOf(25, 0));
    }

    // "IllegalStateException if it is not defined"
    private static void lettersThatAreNotDefined() {
        for (int letter : new int[] {2, 24}) {
            refused("remove of what is not defined", STATE, book -> book.remove(letter));
            refused("load of what is not defined", STATE, book -> book.load(letter));
        }
        for (int letter : new int[] {0, 25}) {
            Checks.refuses("remove, nothing is defined", STATE, Book::new, book -> book.remove(letter));
            Checks.refuses("load, nothing is defined", STATE, Book::new, book -> book.load(letter));
        }
    }

    // "IllegalArgumentException if the buffer is not a complete text"
    private static void textsThatAreNotComplete() {
        for (String text : new String[] {INCOMPLETE, WRONG, "A(", "A(c,", "c)", "!", "A(,,,,,,)"}) {
            for (int letter : new int[] {0, 1, 2, 25}) {
                refusedAt(text, "define", ARGUMENT, book -> book.define(letter));
                refusedAt(text, "ifDefined", ARGUMENT, book -> book.ifDefined(letter));
            }
            refusedAt(text, "expand", ARGUMENT, Book::expand);
        }
        Checks.due("define", 0, book(COMPLETE).define(2));
        Checks.due("ifDefined", Checks.set("AZ"), book(COMPLETE).ifDefined(0));
        Checks.due("expand", 3, book(COMPLETE).expand());
        Checks.due("define of the empty text", 0, book("").define(2));
        Checks.due("ifDefined of the empty text", Checks.set("Z"), book("").ifDefined(0));
        Checks.due("expand of the empty text", 0, book("").expand());
    }

    private static void depths() {
        for (int depth : new int[] {0, 13, -1, -8, 14, 256, Integer.MIN_VALUE, Integer.MAX_VALUE}) {
            refused("set(" + depth + ")", ARGUMENT, book -> book.set(depth));
        }
        answered("set(1)", 5, book -> book.set(1));
        answered("set(12)", 5, book -> book.set(12));
    }

    // append lists the code before the full buffer.
    private static void codes() {
        for (int code : new int[] {32, 127, 0, -1, 353, Integer.MIN_VALUE, Integer.MAX_VALUE}) {
            refused("append(" + code + ")", ARGUMENT, book -> book.append(code));
        }
        for (int code : new int[] {33, 97, 126}) {
            refusedAt(FULL, "append(" + code + ")", STATE, book -> book.append(code));
            answered("append(" + code + ")", 5, book -> book.append(code));
            Checks.due("the sixtieth", 60, book(FULL.substring(1)).append(code));
        }
    }

    private static void slots() {
        for (int slot : new int[] {-1, 2, 3, Integer.MIN_VALUE, Integer.MAX_VALUE}) {
            refused("keep(" + slot + ")", ARGUMENT, book -> book.keep(slot));
            refused("goBack(" + slot + ")", ARGUMENT, book -> book.goBack(slot));
            Checks.refuses("goBack(" + slot + "), all are empty", ARGUMENT, Book::new, book -> book.goBack(slot));
        }
        refused("goBack to an empty slot", STATE, book -> book.goBack(1));
        answered("keep(0)", 3, book -> book.keep(0));
        answered("keep(1)", 3, book -> book.keep(1));
        answered("goBack(0)", 3, book -> book.goBack(0));
    }

    private static void undoWithoutSavedStates() {
        for (String text : BUFFERS) {
            Checks.refuses("undo", STATE, () -> {
                Book book = new Book();
                Checks.type(book, text);
                book.keep(1);
                return book;
            }, Book::undo);
            Checks.refuses("undo once more", STATE, () -> {
                Book book = book(text);
                for (int left = 5; left >= 0; left--) {
                    Checks.due("left", left, book.undo());
                }
                return book;
            }, Book::undo);
        }
    }

    private static void bodyNumbers() {
        for (int what : new int[] {-1, 6, 7, Integer.MIN_VALUE, Integer.MAX_VALUE}) {
            for (int letter : new int[] {0, 2, 25}) {
                refused("body(" + letter + ", " + what + ")", ARGUMENT, book -> book.body(letter, what));
            }
        }
        answered("body(0, 0)", 3, book -> book.body(0, 0));
        answered("body(0, 5)", 1, book -> book.body(0, 5));
        answered("body(2, 0)", -1, book -> book.body(2, 0));
        answered("body(2, 5)", -1, book -> book.body(2, 5));
    }

    private static void useNumbers() {
        for (int what : new int[] {-1, 4, 5, Integer.MIN_VALUE, Integer.MAX_VALUE}) {
            for (int letter : new int[] {0, 2, 25}) {
                refused("uses(" + letter + ", " + what + ")", ARGUMENT, book -> book.uses(letter, what));
            }
        }
        answered("uses(0, 0)", Checks.set("B"), book -> book.uses(0, 0));
        answered("uses(0, 3)", Checks.set("Z"), book -> book.uses(0, 3));
        answered("uses(2, 0)", 0, book -> book.uses(2, 0));
        answered("uses(2, 3)", 0, book -> book.uses(2, 3));
    }

    private static void indices() {
        for (int index : new int[] {-1, -2, Integer.MIN_VALUE}) {
            refused("sign(" + index + ")", ARGUMENT, book -> book.sign(index));
            refused("trace(" + index + ", 0)", ARGUMENT, book -> book.trace(index, 0));
            refused("trace(" + index + ", 6)", ARGUMENT, book -> book.trace(index, 6));
        }
        answered("sign(0)", 'a', book -> book.sign(0));
        answered("the last sign", '$', book -> book.sign(3));
        for (int index : new int[] {4, 200, Integer.MAX_VALUE}) {
            answered("sign(" + index + ")", -1, book -> book.sign(index));
        }
    }

    private static void resultNumbers() {
        for (int what : new int[] {-1, 8, 9, Integer.MIN_VALUE, Integer.MAX_VALUE}) {
            refused("result(" + what + ")", ARGUMENT, book -> book.result(what));
            Checks.refuses("result(" + what + ") at first", ARGUMENT, Book::new, book -> book.result(what));
        }
        answered("result(0)", 4, book -> book.result(0));
        answered("result(7)", 3, book -> book.result(7));
    }

    private static void traceNumbers() {
        for (int what : new int[] {-1, 6, 7, Integer.MIN_VALUE, Integer.MAX_VALUE}) {
            for (int index : new int[] {0, 3, 60, Integer.MAX_VALUE}) {
                refused("trace(" + index + ", " + what + ")", ARGUMENT, book -> book.trace(index, what));
            }
        }
        answered("trace(0, 0)", 1, book -> book.trace(0, 0));
        answered("trace(2, 5)", 0, book -> book.trace(2, 5));
        for (int index : new int[] {3, 59, 60, 357913942, 715827883, Integer.MAX_VALUE}) {
            answered("trace(" + index + ", 0)", -1, book -> book.trace(index, 0));
            answered("trace(" + index + ", 5)", -1, book -> book.trace(index, 5));
        }
    }

    private static void lengths() {
        for (int length : new int[] {-1, 21, 22, Integer.MIN_VALUE, Integer.MAX_VALUE}) {
            for (int letter : new int[] {0, 2, 25}) {
                refused("lengthOf(" + letter + ", " + length + ")", ARGUMENT, book -> book.lengthOf(letter, length));
            }
        }
        answered("lengthOf(0, 0)", 2, book -> book.lengthOf(0, 0));
        answered("lengthOf(0, 20)", 22, book -> book.lengthOf(0, 20));
        answered("lengthOf(2, 0)", -1, book -> book.lengthOf(2, 0));
        answered("lengthOf(2, 20)", -1, book -> book.lengthOf(2, 20));
    }

    private static void countNumbers() {
        for (int what : new int[] {-1, 8, 9, Integer.MIN_VALUE, Integer.MAX_VALUE}) {
            refused("count(" + what + ")", ARGUMENT, book -> book.count(what));
        }
        answered("count(0)", 3, book -> book.count(0));
        answered("count(7)", 4, book -> book.count(7));
    }
}
