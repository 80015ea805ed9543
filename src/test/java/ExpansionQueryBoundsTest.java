import java.util.function.ToDoubleFunction;

/** The boundary sentences of promises 20 to 25: the answers for special cases. */
public final class ExpansionQueryBoundsTest {
    public static void main(String[] args) {
        signsAtTheEnds();
        countsOfTheResult();
        numbersOfTheTrace();
        measuredToTwoHundred();
        measuredArguments();
        measuredToSixtyCalls();
        measuredToTheDepth();
        measuredHoles();
        measuredAsWritten();
        definedLetters();
        callsOfAllBodies();
        expansionsSoFar();
        meansOfHoles();
        queriesChangeNothing();
        Checks.end();
    }

    // "NONE if the result is not so long"
    private static void signsAtTheEnds() {
        Book book = Checks.book("A=" + "a".repeat(49) + "z");
        Checks.due("of a new book", -1, book.sign(0));
        Checks.expand(book, "_AAA" + "b".repeat(49));
        Checks.due("the first one", '_', book.sign(0));
        Checks.due("the 151st", 'z', book.sign(150));
        Checks.due("the 200th", 'b', book.sign(199));
        Checks.due("behind it", -1, book.sign(200));
        Checks.due("far behind it", -1, book.sign(Integer.MAX_VALUE));
        Checks.type(book, "");
        book.expand();
        Checks.due("of an empty result", -1, book.sign(0));
        book.undo();
        Checks.due("the first one again", '_', book.sign(0));
        Checks.due("the 200th again", 'b', book.sign(199));
    }

    // "0 its length, 1 the number of "#", 2 of "%", 3 of "$", 4 of "?" .."
    private static void countsOfTheResult() {
        Book book = Checks.book("A=A", "B=CCC", "C=", "D=UUUU", "E=?D");
        book.set(1);
        dueResult(book, "A".repeat(60), "60 60 0 0 0 60 1 60");
        dueResult(book, "B".repeat(60), "180 0 180 0 0 60 1 60");
        dueResult(book, "D".repeat(50), "200 0 0 200 0 50 1 60");
        dueResult(book, "?".repeat(60), "60 0 0 0 60 0 0 0");
        dueResult(book, "a_?AABCU(?)", "9 2 3 1 1 4 1 10");
        dueResult(book, "E(?)E(A)", "4 1 2 0 1 3 1 6");
        book.set(2);
        dueResult(book, "E(?)B", "5 0 0 4 1 6 2 10");
        dueResult(book, "", "0 0 0 0 0 0 0 0");
    }

    private static void dueResult(Book book, String text, String want) {
        Checks.type(book, text);
        book.expand();
        StringBuilder got = new StringBuilder();
        for (int what = 0; what <= 7; what++) {
            got.append(what == 0 ? "" : " ").append(book.result(what));
        }
        Checks.due("result of " + text, want, got.toString());
    }

    /** The numbers of calls at their smallest and their greatest. */
    private static void numbersOfTheTrace() {
        Book book = Checks.book("A=" + "a".repeat(50), "Z=?", "H=");
        dueTrace(book, "A()", 0, "0 0 0 1 50 0");
        dueTrace(book, "Z", 0, "25 0 0 0 0 0");
        dueTrace(book, "H(b)", 0, "7 0 0 1 0 1");
        dueTrace(book, "H(,,,,,)", 0, "7 0 0 6 0 0");
        dueTrace(book, "U(a,bc,d,e,,f)", 0, "20 1 0 6 1 6");
        dueTrace(book, "Z(AAAA)", 4, "25 0 0 1 200 200");
        dueTrace(book, "Y(AAAA,AAAA,AAAA,AAAA,AAAA,AAAA)", 24, "24 1 0 6 1 1200");
        Book row = new Book();
        for (char letter = 'A'; letter <= 'M'; letter++) {
            Checks.define(row, letter + "=" + (char) (letter + 1) + "(b)");
        }
        row.set(12);
        dueTrace(row, "A", 0, "12 3 12 1 1 1");
        dueTrace(row, "A", 1, "11 0 11 1 1 1");
        dueTrace(row, "A", 12, "0 0 0 0 1 0");
    }

    private static void dueTrace(Book book, String text, int index, String want) {
        Checks.type(book, text);
        book.expand();
        StringBuilder got = new StringBuilder();
        for (int what = 0; what <= 5; what++) {
            got.append(what == 0 ? "" : " ").append(book.trace(index, what));
        }
        Checks.due("trace of " + text + ", " + index, want, got.toString());
    }

    private static void dueLength(Book book, char letter, int length, int want) {
        String before = Checks.countsOf(book);
        Checks.due("lengthOf " + letter + " with " + length, want, book.lengthOf(letter - 'A', length));
        Checks.due("it changes nothing", before, Checks.countsOf(book));
    }

    // "NONE if it is not defined, or it .. would be longer than 200 signs"
    private static void measuredToTwoHundred() {
        Book book = Checks.book("A=" + "?".repeat(10), "B=" + "?".repeat(10) + "a", "C=" + "?".repeat(9) + "U",
                "D=" + "?".repeat(10) + "D", "E=" + "a".repeat(50), "F=EEEE", "G=EEEEH", "H=", "I=EEEE_");
        dueLength(book, 'A', 19, 190);
        dueLength(book, 'A', 20, 200);
        dueLength(book, 'B', 19, 191);
        dueLength(book, 'B', 20, -1);
        dueLength(book, 'C', 20, 181);
        dueLength(book, 'D', 19, 191);
        dueLength(book, 'D', 20, -1);
        dueLength(book, 'F', 0, 200);
        dueLength(book, 'F', 20, 200);
        dueLength(book, 'G', 20, 200);
        dueLength(book, 'I', 0, -1);
        dueLength(book, 'H', 20, 0);
        dueLength(book, 'U', 0, -1);
        dueLength(book, 'Z', 20, -1);
        book.remove(0);
        dueLength(book, 'A', 0, -1);
    }

    // ".. or the expanded argument of a call would be longer than 200 signs"
    private static void measuredArguments() {
        String ten = "?".repeat(10);
        for (String call : new String[] {"H(*)", "U(*)", "A(*)", "H(U,*)", "U(U(*))", "H(H(*))"}) {
            int written = call.startsWith("H") ? 0 : 1;
            dueLength(Checks.book("H=", "A=" + call.replace("*", ten)), 'A', 20, written);
            dueLength(Checks.book("H=", "A=" + call.replace("*", ten + "a")), 'A', 19, written);
            dueLength(Checks.book("H=", "A=" + call.replace("*", ten + "a")), 'A', 20, -1);
            dueLength(Checks.book("H=", "A=" + call.replace("*", "U" + ten)), 'A', 20, -1);
        }
        Book tooDeep = Checks.book("H=", "A=H(" + ten + ")", "B=H(" + ten + "a)");
        tooDeep.set(1);
        dueLength(tooDeep, 'A', 20, 1);
        dueLength(tooDeep, 'B', 19, 1);
        dueLength(tooDeep, 'B', 20, -1);
        dueLength(Checks.book("A=U(" + ten + "," + ten + "," + ten + ")"), 'A', 20, 1);
    }

    // ".. or more than 60 calls would be expanded (its own one counts)"
    private static void measuredToSixtyCalls() {
        Book book = Checks.book("Z=", "Y=ZZZZZZZZZ", "A=YYYYYZZZZZZZZ", "B=YYYYYZZZZZZZZZ", "C=YYYYYZZZZZZZZZZ",
                "D=" + "Z".repeat(59), "E=" + "Z".repeat(60), "F=YYYYYZZZZZZZZZUUF", "G=B");
        dueLength(book, 'A', 0, 0);
        dueLength(book, 'B', 0, 0);
        dueLength(book, 'C', 0, -1);
        dueLength(book, 'D', 20, 0);
        dueLength(book, 'E', 20, -1);
        dueLength(book, 'F', 20, 3);
        dueLength(book, 'G', 0, -1);
        Checks.define(book, "H=U(YYYYYZZZZZZZZZ)");
        Checks.define(book, "I=U(YYYYYZZZZZZZZZZ)");
        dueLength(book, 'H', 0, 1);
        dueLength(book, 'I', 0, -1);
    }

    private static void measuredToTheDepth() {
        Book book = Checks.book("A=aaB", "B=bbbC(?)", "C=?cA", "D=D");
        dueLength(book, 'A', 20, 2 + 3 + 1 + 1);
        dueLength(book, 'C', 4, 4 + 1 + 2 + 3 + 1);
        dueLength(book, 'D', 0, 1);
        book.set(2);
        dueLength(book, 'A', 20, 2 + 3 + 1);
        dueLength(book, 'B', 20, 3 + 20 + 1 + 1);
        book.set(1);
        dueLength(book, 'A', 20, 2 + 1);
        dueLength(book, 'D', 0, 1);
        book.remove(1);
        dueLength(book, 'A', 20, 2 + 1);
    }

    // "whose arguments are as many texts of the same length as its body has holes"
    private static void measuredHoles() {
        for (int holes = 0; holes <= 60; holes++) {
            Book book = Checks.book("A=" + "?".repeat(holes));
            dueLength(book, 'A', 0, 0);
            dueLength(book, 'A', 1, holes);
            dueLength(book, 'A', 3, 3 * holes);
            dueLength(book, 'A', 4, 4 * holes <= 200 ? 4 * holes : -1);
            dueLength(book, 'A', 20, 20 * holes <= 200 ? 20 * holes : -1);
        }
        Book nested = Checks.book("A=B(?,C(?),??)?", "B=???x", "C=?y?");
        dueLength(nested, 'A', 0, 2);
        dueLength(nested, 'A', 7, 7 + 7 + 1 + 14 + 1 + 7);
        dueLength(Checks.book("A=B(?)??????", "B=???"), 'A', 5, 35);
    }

    // "how long the result of a call .. would be": as long as when it is written.
    private static void measuredAsWritten() {
        String[] definitions = {"A=B(?,U(?)C)A(?)", "B=?x?C(?)?", "C=D(?,,?)_?", "D=EE?yE(?)", "E=zF", "F=G(A)?", "G=?"};
        for (int depth = 1; depth <= 8; depth++) {
            for (int length = 0; length <= 20; length++) {
                Book book = Checks.book(definitions);
                book.set(depth);
                for (char letter = 'A'; letter <= 'H'; letter++) {
                    dueAsWritten(book, letter, length);
                }
            }
        }
    }

    private static void dueAsWritten(Book book, char letter, int length) {
        int holes = Math.max(0, book.body(letter - 'A', 1));
        String text = letter + (holes == 0 ? "" : "(" + ("a".repeat(length) + ",").repeat(holes - 1)
                + "a".repeat(length) + ")");
        if (text.length() > 60 || book.body(letter - 'A', 0) < 0) {
            return;
        }
        book.clearBuffer();
        for (int i = 0; i < text.length(); i++) {
            book.append(text.charAt(i));
        }
        Checks.due("lengthOf as " + text, book.expand(), book.lengthOf(letter - 'A', length));
    }

    // "0 the number of abbreviations that are defined, 1 the set of these"
    private static void definedLetters() {
        Book book = new Book();
        int set = 0;
        for (int i = 0; i < 26; i++) {
            Checks.due("so many", i, book.count(0));
            Checks.due("these", set, book.count(1));
            int letter = i * 5 % 26;
            book.define(letter);
            set |= 1 << letter;
        }
        Checks.due("all of them", 26, book.count(0));
        Checks.due("these", (1 << 26) - 1, book.count(1));
        book.define(0);
        Checks.due("once more", 26, book.count(0));
        for (int letter = 25; letter >= 0; letter--) {
            Checks.due("one less", letter, book.remove(letter));
            Checks.due("these", (1 << letter) - 1, book.count(1));
        }
    }

    // "5 the number of calls in all bodies"
    private static void callsOfAllBodies() {
        Book book = new Book();
        Checks.due("of a new book", 0, book.count(5));
        Checks.define(book, "A=" + "Z".repeat(60));
        Checks.define(book, "B=b");
        Checks.define(book, "Z=A(B(C),D)E()");
        Checks.due("of three bodies", 65, book.count(5));
        Checks.expand(book, "UUU");
        Checks.due("not of the buffer", 65, book.count(5));
        Checks.define(book, "A=A");
        Checks.due("of the newer body", 6, book.count(5));
        book.remove(25);
        Checks.due("without Z", 1, book.count(5));
        book.exchange(0, 25);
        Checks.due("elsewhere", 1, book.count(5));
    }

    // "3 the number of expansions so far that did not fail, 4 the number of those that failed"
    private static void expansionsSoFar() {
        Book book = Checks.book("A=" + "a".repeat(50));
        for (int i = 1; i <= 10; i++) {
            Checks.type(book, "AAAA");
            book.expand();
            Checks.due("they did not fail", i, book.count(3));
            Checks.due("they failed", i - 1, book.count(4));
            book.append('a');
            book.expand();
            Checks.due("they did not fail", i, book.count(3));
            Checks.due("they failed", i, book.count(4));
            book.append(')');
            Checks.dueThrow("what throws", IllegalArgumentException.class, book::expand);
            book.lengthOf(0, 0);
            book.lengthOf(1, 0);
        }
        Checks.due("they did not fail", 10, book.count(3));
        Checks.due("they failed", 10, book.count(4));
    }

    // "the number of holes of all bodies as a double, divided by the number of abbreviations ..; 0.0 without any"
    private static void meansOfHoles() {
        Book book = new Book();
        dueMean(book, 0.0);
        Checks.define(book, "A=");
        dueMean(book, 0.0);
        Checks.define(book, "B=?");
        dueMean(book, 0.5);
        Checks.define(book, "C=a");
        dueMean(book, 1.0 / 3.0);
        Checks.define(book, "Z=" + "?".repeat(60));
        dueMean(book, 61.0 / 4.0);
        Checks.expand(book, "???");
        dueMean(book, 61.0 / 4.0);
        book.remove(0);
        book.remove(1);
        book.remove(2);
        dueMean(book, 60.0);
        book.exchange(25, 0);
        dueMean(book, 60.0);
        book.remove(0);
        dueMean(book, 0.0);
    }

    private static void dueMean(Book book, double want) {
        Checks.due("the mean", Double.doubleToLongBits(want), Double.doubleToLongBits(book.meanHoles()));
    }

    // "queries about expansions; nothing changes"
    private static void queriesChangeNothing() {
        String want = Checks.factsOf(asked());
        for (int i = 0; i < 26; i++) {
            int letter = i;
            dueUnchanged("lengthOf " + letter, want, book -> book.lengthOf(letter, letter % 21));
            dueUnchanged("sign " + i, want, book -> book.sign(letter));
        }
        for (int i = 0; i <= 7; i++) {
            int what = i;
            dueUnchanged("result " + what, want, book -> book.result(what));
            dueUnchanged("count " + what, want, book -> book.count(what));
            for (int place = 0; place <= 60 && what <= 5; place += 4) {
                int index = place;
                dueUnchanged("trace " + index + ", " + what, want, book -> book.trace(index, what));
            }
        }
        dueUnchanged("meanHoles", want, Book::meanHoles);
    }

    /** Four states are saved, a snapshot is in slot 1, and the buffer holds another text. */
    private static Book asked() {
        Book book = Checks.book("A=a?B(?)B", "B=?C?");
        Checks.expand(book, "A(b,A)?");
        book.keep(1);
        book.set(2);
        Checks.type(book, "AB(c)");
        return book;
    }

    private static void dueUnchanged(String query, String want, ToDoubleFunction<Book> answer) {
        Book book = asked();
        answer.applyAsDouble(book);
        Checks.due(query + " changes nothing", want, Checks.factsOf(book));
    }
}
