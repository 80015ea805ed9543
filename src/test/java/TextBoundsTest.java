import java.util.ArrayList;
import java.util.List;

/** The boundary sentences of "Texts and calls" and "Buffer", and of promises 7 to 10. */
public final class TextBoundsTest {
    private static final String ANYWHERE = "abcdefghijklmnopqrstuvwxyz_?ABCDEFGHIJKLMNOPQRSTUVWXYZ";
    private static final String SIXTY = "a".repeat(60);

    public static void main(String[] args) {
        eachCodeInEachPlace();
        completeTextsAreTaken();
        otherTextsAreRefused();
        sixArgumentsAreTheMost();
        oneArgumentIsTheFewest();
        callsThatStandAloneHaveNone();
        theBufferIsEmptyAtFirst();
        theBufferHoldsSixty();
        theLastCodesThatAreAllowed();
        theFirstErrorAtTheEnds();
        notCompleteIsNoError();
        loadReplaces();
        loadKeepsTheForm();
        Checks.end();
    }

    // "The first error .. is the index of the first character that no text can have after the
    // characters before it": each of the 94 codes, in each kind of place.
    private static void eachCodeInEachPlace() {
        dueAllowed("", "", "");
        dueAllowed("a", "", "");
        dueAllowed("_?z", "", "");
        dueAllowed("A", "(", "");
        dueAllowed("Z", "(", "");
        dueAllowed("A()", "", "");
        dueAllowed("A(b)", "", "");
        dueAllowed("A(B)", "", "");
        dueAllowed("A()A", "(", "");
        dueAllowed("A(", "", ",)");
        dueAllowed("A(b", "", ",)");
        dueAllowed("A(?", "", ",)");
        dueAllowed("A(B", "(", ",)");
        dueAllowed("A(B()", "", ",)");
        dueAllowed("A(,", "", ",)");
        dueAllowed("A(,,,,", "", ",)");
        dueAllowed("A(,,,,,", "", ")");
        dueAllowed("A(,,,,,b", "", ")");
        dueAllowed("A(,,,,,B", "(", ")");
        dueAllowed("A(,,,,,B(", "", ",)");
        dueAllowed("A(,,,,,B()", "", ")");
        dueAllowed("A(B(,,,,,", "", ")");
        dueAllowed("A(B(,,,,,)", "", ",)");
        dueAllowed("A(B(,,,,,),,,,,", "", ")");
        dueAllowed("A(,,,,,)B(", "", ",)");
        dueAllowed("A(,,,,,)", "", "");
    }

    private static void dueAllowed(String before, String ofLetter, String ofArgument) {
        String allowed = ANYWHERE + ofLetter + ofArgument;
        for (char code = 33; code <= 126; code++) {
            Book book = new Book();
            Checks.type(book, before + code);
            boolean isAllowed = allowed.indexOf(code) >= 0;
            Checks.due("firstError of " + before + code, before.length() + (isAllowed ? 1 : 0), book.firstError());
        }
    }

    // "A text is a sequence of any number of signs (also none)"; "each argument is a text".
    private static void completeTextsAreTaken() {
        dueTaken("", "");
        dueTaken("a", "a");
        dueTaken("_", "_");
        dueTaken("?", "?");
        dueTaken("A", "$");
        dueTaken("A()", "$");
        dueTaken("A(,)", "$");
        dueTaken("A(b,)", "$");
        dueTaken("A(,b)c", "$c");
        dueTaken("A(,,,,,)", "$");
        dueTaken("A(B(C()))", "$");
        dueTaken("A(B,C(D,E),)", "$");
        dueTaken("A()B()?", "$$?");
        dueTaken(SIXTY, SIXTY);
        dueTaken("A(" + "b".repeat(57) + ")", "$");
    }

    private static void dueTaken(String text, String result) {
        Checks.due("define " + text, occurrences(text, '?'), typed(text).define(0));
        Checks.due("ifDefined " + text, 0, typed(text).ifDefined(25));
        Checks.due("expand " + text, result, Checks.expand(new Book(), text));
    }

    private static void otherTextsAreRefused() {
        List<String> texts = new ArrayList<>();
        for (String text : new String[] {"A(", "A(b", "A(b,", "A(B()", "A(,,,,,", "A(,,,,,,)", "A(,,,,,B(,,,,,,))",
            ")", ",", "(", "()", "a()", "?()", "_()", "A()()", "A())", "A(b)(c)", "A,", "A(b),", "a#", "A(#)"}) {
            texts.add(text);
        }
        texts.add("A(".repeat(30));
        texts.add("a".repeat(59) + ")");
        texts.add("a".repeat(58) + "A(");
        texts.add("A(" + "b".repeat(58));
        for (String text : texts) {
            Checks.refuses("define " + text, IllegalArgumentException.class, () -> typed(text), b -> b.define(0));
            Checks.refuses("expand " + text, IllegalArgumentException.class, () -> typed(text), Book::expand);
            Checks.refuses("ifDefined " + text, IllegalArgumentException.class, () -> typed(text),
                    b -> b.ifDefined(0));
        }
    }

    // "one to six arguments"
    private static void sixArgumentsAreTheMost() {
        for (int arguments = 1; arguments <= 6; arguments++) {
            String text = "A(" + "b,".repeat(arguments - 1) + "b)";
            Book book = typed(text);
            Checks.due("no error in " + text, text.length(), book.firstError());
            Checks.due("length of the result of " + text, 1, book.expand());
            Checks.due("arguments in the trace", arguments, book.trace(0, 3));
            Checks.due("their lengths", arguments, book.trace(0, 5));
            Checks.due("holes", 0, book.define(1));
            Checks.due("arguments in the body", arguments, book.body(1, 3));
        }
        Book seven = typed("A(b,b,b,b,b,b,b)");
        Checks.due("the comma of the seventh", 13, seven.firstError());
        Book inside = typed("A(,,,B(,,,,,,),,)");
        Checks.due("the comma of the seventh inside", 12, inside.firstError());
    }

    // A call that is written with "(" and ")" has one argument at least.
    private static void oneArgumentIsTheFewest() {
        Book book = typed("A()");
        book.expand();
        Checks.due("one argument", 1, book.trace(0, 3));
        Checks.due("which is empty", 0, book.trace(0, 5));
        book.define(0);
        Checks.due("in the body, too", 1, book.body(0, 3));
        Checks.define(book, "A=A(B())");
        Checks.due("also inside", 1, book.body(0, 3));
    }

    // "A call that stands alone has no arguments."
    private static void callsThatStandAloneHaveNone() {
        Book book = typed("AbB");
        book.expand();
        Checks.due("no arguments of A", 0, book.trace(0, 3));
        Checks.due("no arguments of B", 0, book.trace(1, 3));
        book.define(0);
        Checks.due("none in the body", 0, book.body(0, 3));
    }

    // "It is empty at first."
    private static void theBufferIsEmptyAtFirst() {
        Book book = new Book();
        Checks.due("the length", 0, book.count(7));
        Checks.due("no error", 0, book.firstError());
        Checks.due("clearing it", 0, book.clearBuffer());
        Checks.due("the empty text", 0, book.expand());
        Checks.due("an empty body", 0, book.define(0));
        Checks.due("its length", 0, book.body(0, 0));
        Checks.due("append", 1, book.append('a'));
    }

    // "The buffer holds at most 60 characters": from 59 to 60, and not to 61.
    private static void theBufferHoldsSixty() {
        Book book = typed("a".repeat(59));
        Checks.due("the sixtieth", 60, book.append('z'));
        Checks.dueThrow("the 61st", IllegalStateException.class, () -> book.append('b'));
        Checks.dueThrow("the 61st again", IllegalStateException.class, () -> book.append('b'));
        Checks.due("the length stays", 60, book.count(7));
        Checks.due("sixty are expanded", 60, book.expand());
        Checks.due("the last one stays", "a".repeat(59) + "z", Checks.resultOf(book));
        Checks.due("sixty are a body", 0, book.define(0));
        Checks.due("of sixty signs", 60, book.body(0, 0));
        Checks.due("then there is room", 1, book.append('c'));
        Checks.due("load", 60, book.load(0));
        Checks.dueThrow("full by load", IllegalStateException.class, () -> book.append('b'));
        Checks.due("clearing", 60, book.clearBuffer());
        Checks.due("then there is room again", 1, book.append('d'));
    }

    // "a character code, 33 to 126"
    private static void theLastCodesThatAreAllowed() {
        for (int code : new int[] {33, 34, 125, 126}) {
            Checks.due("append(" + code + ")", 1, new Book().append(code));
        }
        for (int code : new int[] {Integer.MIN_VALUE, -33, -1, 0, 31, 32, 127, 128, 255, 289, 65633,
            Integer.MAX_VALUE}) {
            for (String text : new String[] {"", "ab", "a".repeat(59), SIXTY}) {
                Checks.refuses("append(" + code + ") to " + text, IllegalArgumentException.class,
                        () -> typed(text), book -> book.append(code));
            }
        }
        for (int code : new int[] {33, 126}) {
            Checks.refuses("append(" + code + ") to a full one", IllegalStateException.class,
                    () -> typed(SIXTY), book -> book.append(code));
        }
    }

    // "its index; the length of the buffer if there is no error"
    private static void theFirstErrorAtTheEnds() {
        dueError("", 0);
        dueError(SIXTY, 60);
        dueError("a".repeat(59) + "!", 59);
        dueError("a".repeat(59) + ")", 59);
        dueError("a".repeat(58) + "((", 58);
        dueError("!" + "a".repeat(59), 0);
        dueError(")".repeat(60), 0);
        dueError("A()".repeat(20), 60);
        dueError("a" + "A()".repeat(19) + "),", 58);
        dueError("A(".repeat(29) + "))", 60);
        dueError("A(".repeat(20) + ")".repeat(20), 60);
        dueError("A(".repeat(19) + ")".repeat(20) + "a", 57);
        dueError("a!b!", 1);
    }

    // "(also if the text is not complete)"
    private static void notCompleteIsNoError() {
        for (String text : new String[] {"A(", "A(b", "A(b,", "A(,,,,,", "A(B(", "A(B(),", "A(".repeat(30),
            "A(" + "b".repeat(58)}) {
            dueError(text, text.length());
        }
    }

    private static void dueError(String text, int want) {
        Book book = typed(text);
        Checks.due("firstError of " + text, want, book.firstError());
        Checks.due("firstError once more", want, book.firstError());
        Checks.due("it changes nothing", text.length(), book.count(7));
    }

    // "in place of what was there"
    private static void loadReplaces() {
        for (String body : new String[] {"", "x", "A(?,b)", SIXTY}) {
            for (String before : new String[] {"", "A(", ")", "abc", SIXTY}) {
                Book book = Checks.book("Z=" + body);
                Checks.type(book, before);
                Checks.due("load of " + body, body.length(), book.load(25));
                Checks.due("the length", body.length(), book.count(7));
                Checks.due("no error", body.length(), book.firstError());
                Checks.due("load once more", body.length(), book.load(25));
                Checks.due("holes", occurrences(body, '?'), book.define(0));
                for (int what = 0; what <= 5; what++) {
                    Checks.due("the same body", book.body(25, what), book.body(0, what));
                }
            }
        }
    }

    // "as a text in which a call without arguments stands alone"; one with an empty argument does not.
    private static void loadKeepsTheForm() {
        for (String body : new String[] {"A", "A()", "A(,)", "AB()C", "A(B,C())D", "AA(A)A()"}) {
            Book book = Checks.book("Z=" + body);
            Checks.due("load of " + body, body.length(), book.load(25));
            book.expand();
            String trace = Checks.traceOf(book);
            Checks.type(book, body);
            book.expand();
            Checks.due("the calls of " + body, Checks.traceOf(book), trace);
        }
    }

    private static Book typed(String text) {
        Book book = new Book();
        Checks.type(book, text);
        return book;
    }

    private static int occurrences(String text, char sign) {
        return (int) text.chars().filter(c -> c == sign).count();
    }
}
