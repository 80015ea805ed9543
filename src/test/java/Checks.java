import java.util.function.Consumer;
import java.util.function.Supplier;

/** What the tests share: comparing answers with those that are due, and making books. */
final class Checks {
    interface Call {
        long answer();
    }

    private static int made = 0;
    private static int wrong = 0;

    private Checks() {
    }

    static void due(String what, Object want, Object got) {
        made++;
        if (!want.equals(got)) {
            wrong++;
            System.out.println(what + ": answered " + got + ", due is " + want);
        }
    }

    static void due(String what, long want, long got) {
        due(what, (Object) want, (Object) got);
    }

    /** The call throws exactly this exception, and no subclass of it. */
    static void dueThrow(String what, Class<? extends RuntimeException> want, Call call) {
        due(what, want.getSimpleName(), outcomeOf(call));
    }

    /** The call throws exactly this exception, and a book on which it was tried is as one without. */
    static void refuses(String what, Class<? extends RuntimeException> want,
            Supplier<AbbreviationBook> maker, Consumer<AbbreviationBook> call) {
        AbbreviationBook tried = maker.get();
        dueThrow(what, want, () -> {
            call.accept(tried);
            return 0;
        });
        due(what + " changes nothing", factsOf(maker.get()), factsOf(tried));
    }

    /** The answer, or the name of what the call throws. */
    static String outcomeOf(Call call) {
        try {
            return Long.toString(call.answer());
        } catch (RuntimeException e) {
            return e.getClass().getSimpleName();
        }
    }

    /** Makes a book of definitions such as "A=a?b"; its buffer is empty then. */
    static AbbreviationBook book(String... definitions) {
        AbbreviationBook book = new AbbreviationBook();
        for (String definition : definitions) {
            define(book, definition);
        }
        return book;
    }

    static int define(AbbreviationBook book, String definition) {
        type(book, definition.substring(2));
        return book.define(definition.charAt(0) - 'A');
    }

    /** Puts a text into the buffer, in place of what was there. */
    static void type(AbbreviationBook book, String text) {
        book.clearBuffer();
        for (int i = 0; i < text.length(); i++) {
            book.append(text.charAt(i));
        }
    }

    /** Types a text and expands it; "failed" stands for an expansion that fails. */
    static String expand(AbbreviationBook book, String text) {
        type(book, text);
        int length = book.expand();
        if (length == AbbreviationBook.NONE) {
            return "failed";
        }
        due("length of the result of " + text, length, resultOf(book).length());
        return resultOf(book);
    }

    static String resultOf(AbbreviationBook book) {
        StringBuilder text = new StringBuilder();
        for (int i = 0; book.sign(i) != AbbreviationBook.NONE; i++) {
            text.append((char) book.sign(i));
        }
        return text.toString();
    }

    /** The calls of the trace, each as its letter and its numbers 1 to 5. */
    static String traceOf(AbbreviationBook book) {
        StringBuilder text = new StringBuilder();
        for (int i = 0; book.trace(i, 0) != AbbreviationBook.NONE; i++) {
            text.append(i == 0 ? "" : " ").append((char) ('A' + book.trace(i, 0)));
            for (int what = 1; what <= 5; what++) {
                text.append(what == 1 ? "" : ",").append(book.trace(i, what));
            }
        }
        return text.toString();
    }

    static String countsOf(AbbreviationBook book) {
        StringBuilder text = new StringBuilder();
        for (int what = 0; what <= 7; what++) {
            text.append(what == 0 ? "" : " ").append(book.count(what));
        }
        return text.toString();
    }

    /** The set whose letters a text names. */
    static int set(String letters) {
        int set = 0;
        for (int i = 0; i < letters.length(); i++) {
            set |= 1 << letters.charAt(i) - 'A';
        }
        return set;
    }

    /** The facts of a book, its buffer, saved states and snapshots too; the book is used up by it. */
    static String factsOf(AbbreviationBook book) {
        StringBuilder facts = new StringBuilder(stateOf(book));
        facts.append(" buffer ").append(book.firstError());
        facts.append(" expand ").append(outcomeOf(book::expand)).append(resultOf(book));
        for (int slot = 0; slot < 2; slot++) {
            int place = slot;
            facts.append(" slot ").append(outcomeOf(() -> book.goBack(place))).append(stateOf(book));
        }
        for (int i = 0; i < 7; i++) {
            facts.append(" undo ").append(outcomeOf(book::undo)).append(stateOf(book));
        }
        return facts.toString();
    }

    private static String stateOf(AbbreviationBook book) {
        StringBuilder facts = new StringBuilder(countsOf(book));
        facts.append(' ').append(resultOf(book)).append(' ').append(traceOf(book));
        for (int letter = 0; letter < 3; letter++) {
            facts.append(' ').append(book.body(letter, 0)).append(' ').append(book.uses(letter, 0));
        }
        return facts.toString();
    }

    /** Ends the test, with exit code 1 if an answer was not the one that is due. */
    static void end() {
        System.out.println(made + " checks, " + wrong + " wrong");
        System.exit(wrong == 0 && made > 0 ? 0 : 1);
    }
}
