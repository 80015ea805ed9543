import java.util.function.Consumer;
import java.util.function.Supplier;

/** What the tests share: comparing answers with those that are due, and making books. */
final class Checks {
    interface Call {
        long answer();
    }

    private static int made = 0;
    private static int wrong = 0;

    private Checks() {
    }

    static void due(String what, Object want, Object got) {
        made++;
        if (!want.equals(got)) {
            wrong++;
            System.out.println(what + ": answered " + got + ", due is " + want);
        }
    }

    static void due(String what, long want, long got) {
        due(what, (Object) want, (Object) got);
    }

    /** The call throws exactly this exception, and no subclass of it. */
    static void dueThrow(String what, Class<? extends RuntimeException> want, Call call) {
        due(what, want.getSimpleName(), outcomeOf(call));
    }

    /** The call throws exactly this exception, and a book on which it was tried is as one without. */
    static void refuses(String what, Class<? extends RuntimeException> want,
            Supplier<Book> maker, Consumer<Book> call) {
        Book tried = maker.get();
        dueThrow(what, want, () -> {
            call.accept(tried);
            return 0;
        });
        due(what + " changes nothing", factsOf(maker.get()), factsOf(tried));
    }

    /** The answer, or the name of what the call throws. */
    static String outcomeOf(Call call) {
        try {
            return Long.toString(call.answer());
        } catch (RuntimeException e) {
            return e.getClass().getSimpleName();
        }
    }

    /** Makes a book of definitions such as "A=a?b"; its buffer is empty then. */
    static Book book(String... definitions) {
        Book book = new Book();
        for (String definition : definitions) {
            define(book, definition);
        }
        return book;
    }

    static int define(Book book, String definition) {
        type(book, definition.substring(2));
        return book.define(definition.charAt(0) - 'A');
    }

    /** Puts a text into the buffer, in place of what was there. */
    static void type(Book book, String text) {
        book.clearBuffer();
        for (int i = 0; i < text.length(); i++) {
            book.append(text.charAt(i));
        }
    }

    /** Types a text and expands it; "failed" stands for an expansion that fails. */
    static String expand(Book book, String text) {
        type(book, text);
        int length = book.expand();
        if (length == Book.NONE) {
            return "failed";
        }
        String result = resultOf(book);
        due("length of the result of " + text, length, result.length());
        return result;
    }

    static String resultOf(Book book) {
        StringBuilder text = new StringBuilder();
        int length = book.result(0);
        for (int i = 0; i < length; i++) {
            text.append((char) book.sign(i));
        }
        due("behind the last sign", Book.NONE, book.sign(length));
        return text.toString();
    }

    /** The calls of the trace, each as its letter and its numbers 1 to 5. */
    static String traceOf(Book book) {
        StringBuilder text = new StringBuilder();
        int length = book.result(7);
        for (int i = 0; i < length; i++) {
            text.append(i == 0 ? "" : " ").append((char) ('A' + book.trace(i, 0)));
            for (int what = 1; what <= 5; what++) {
                text.append(what == 1 ? "" : ",").append(book.trace(i, what));
            }
        }
        due("behind the last call", Book.NONE, book.trace(length, 0));
        return text.toString();
    }

    static String countsOf(Book book) {
        StringBuilder text = new StringBuilder();
        for (int what = 0; what <= 7; what++) {
            text.append(what == 0 ? "" : " ").append(book.count(what));
        }
        return text.toString();
    }

    /** The set whose letters a text names. */
    static int set(String letters) {
        int set = 0;
        for (int i = 0; i < letters.length(); i++) {
            set |= 1 << letters.charAt(i) - 'A';
        }
        return set;
    }

    /** The facts of a book, its saved states, snapshots and buffer too; the book is used up by it. */
    static String factsOf(Book book) {
        StringBuilder facts = new StringBuilder(stateOf(book));
        for (int saved = book.count(6); saved >= 0; saved--) {
            facts.append("; undo ").append(outcomeOf(book::undo)).append(": ").append(stateOf(book));
        }
        for (int slot = 0; slot < 2; slot++) {
            int place = slot;
            facts.append("; slot ").append(outcomeOf(() -> book.goBack(place))).append(": ").append(stateOf(book));
        }
        return facts.append("; buffer ").append(bufferOf(book)).toString();
    }

    private static String stateOf(Book book) {
        StringBuilder facts = new StringBuilder(countsOf(book));
        facts.append(' ').append(resultOf(book)).append(' ').append(traceOf(book));
        int defined = book.count(1);
        for (int letter = 0; letter < 26; letter++) {
            if ((defined & 1 << letter) != 0) {
                facts.append(' ').append((char) ('A' + letter)).append(book.body(letter, 0));
                facts.append(',').append(book.body(letter, 1)).append(',').append(book.uses(letter, 0));
            }
        }
        return facts.toString();
    }

    /** What the buffer's text expands to, if need be when the calls that are open in it are closed. */
    private static String bufferOf(Book book) {
        StringBuilder facts = new StringBuilder();
        facts.append(book.count(7)).append(' ').append(book.firstError());
        String outcome = outcomeOf(book::expand);
        for (int i = 0; i < 3 && outcome.equals("IllegalArgumentException"); i++) {
            outcomeOf(() -> book.append(')'));
            outcome = outcomeOf(book::expand);
        }
        return facts.append(' ').append(outcome).append(' ').append(stateOf(book)).toString();
    }

    /** Ends the test, with exit code 1 if an answer was not the one that is due. */
    static void end() {
        System.out.println(made + " checks, " + wrong + " wrong");
        System.exit(wrong == 0 && made > 0 ? 0 : 1);
    }
}
