import java.util.function.ToIntFunction;

/** The boundary sentences of promises 14 to 19: the answers for special cases. */
public final class DefinitionQueryBoundsTest {
    public static void main(String[] args) {
        bodyOfWhatIsNotDefined();
        bodyAtTheEnds();
        eachBodyHasItsOwnNumbers();
        callsInCalls();
        usesOfWhatIsNotDefined();
        usesOfTheFirstAndTheLast();
        ringsAtTheEnds();
        missingAtTheEnds();
        chainsAtTheEnds();
        chainsThatMeetRings();
        ifDefinedAtTheEnds();
        queriesChangeNothing();
        Checks.end();
    }

    // "NONE if it is not defined."
    private static void bodyOfWhatIsNotDefined() {
        Book book = Checks.book("A=a", "B=A");
        dueNoBody(book, 2);
        dueNoBody(book, 25);
        book.remove(0);
        dueNoBody(book, 0);
        book.exchange(1, 25);
        dueNoBody(book, 1);
        Checks.due("B has gone to Z", 1, book.body(25, 0));
        book.undo();
        dueNoBody(book, 25);
        book.undo();
        Checks.due("A is there again", 1, book.body(0, 0));
        book.undo();
        dueNoBody(book, 1);
    }

    private static void dueNoBody(Book book, int letter) {
        for (int what = 0; what <= 5; what++) {
            Checks.due("body(" + letter + ", " + what + ")", -1, book.body(letter, what));
        }
    }

    private static void dueBody(String text, int... want) {
        Book book = Checks.book("A=" + text);
        for (int what = 0; what <= 5; what++) {
            Checks.due("body of " + text + ", " + what, want[what], book.body(0, what));
        }
    }

    private static void bodyAtTheEnds() {
        dueBody("", 0, 0, 0, 0, 0, 0);
        dueBody("a", 1, 0, 0, 0, 0, 1);
        dueBody("z", 1, 0, 0, 0, 0, 1);
        dueBody("_", 1, 0, 0, 0, 0, 1);
        dueBody("?", 1, 1, 0, 0, 0, 0);
        dueBody("Z", 1, 0, 1, 0, 1, 0);
        dueBody("A()", 3, 0, 1, 1, 1, 0);
        dueBody("_".repeat(60), 60, 0, 0, 0, 0, 60);
        dueBody("?".repeat(60), 60, 60, 0, 0, 0, 0);
        dueBody("Z".repeat(60), 60, 0, 60, 0, 1, 0);
        dueBody("Z()".repeat(20), 60, 0, 20, 1, 1, 0);
        dueBody("Z(?,?,?,?,?,?)", 14, 6, 1, 6, 1, 0);
        dueBody("Z(?,?,?,?,?)Y(a,a,a)", 20, 5, 2, 5, 1, 3);
        dueBody("Y(a,a,a)Z(?,?,?,?,?)", 20, 5, 2, 5, 1, 3);
    }

    /** One book, so that nothing of the text before may be left in the numbers of the next one. */
    private static void eachBodyHasItsOwnNumbers() {
        String[] texts = {"A(B(C(D,,,),?),,,,,x)", "", "?", "Z", "Z(y)", "A(?,?,A(b))", "abc"};
        String[] want = {"21 1 4 6 4 1", "0 0 0 0 0 0", "1 1 0 0 0 0", "1 0 1 0 1 0", "4 0 1 1 1 1",
            "11 2 2 3 2 1", "3 0 0 0 0 3"};
        Book book = new Book();
        for (int i = 0; i < texts.length; i++) {
            Checks.define(book, "A=" + texts[0]);
            Checks.define(book, "B=" + texts[i]);
            StringBuilder got = new StringBuilder();
            for (int what = 0; what <= 5; what++) {
                got.append(what == 0 ? "" : " ").append(book.body(1, what));
            }
            Checks.due("body of " + texts[i] + ", after another one", want[i], got.toString());
            Checks.due("what it calls", Checks.set(texts[i].replaceAll("[^A-Z]", "")), book.uses(1, 0));
        }
    }

    // "the greatest number of calls of which each one is in an argument of the one before (0 without calls)"
    private static void callsInCalls() {
        String[] texts = {"ab?", "A", "AB", "A()B(c)", "A(B)", "A(b,B)", "A(b,,,,,B)", "A(B)C(D)", "A(B)C(D(E))",
            "A(B(C))D(E)", "A(B,C)", "A(BCD)", "A(B(C),D)", "A(D,B(C))", "A(A(A(A)))", "A(B()C(D()E(F)))"};
        int[] want = {0, 1, 1, 1, 2, 2, 2, 2, 3, 3, 2, 2, 3, 3, 4, 4};
        for (int i = 0; i < texts.length; i++) {
            Checks.due("calls in calls of " + texts[i], want[i], Checks.book("Z=" + texts[i]).body(25, 4));
        }
        Checks.due("twenty", 20, Checks.book("Z=" + "A(".repeat(20) + ")".repeat(20)).body(25, 4));
        Checks.due("twenty, the last one alone", 20,
                Checks.book("Z=" + "A(".repeat(19) + "bA" + ")".repeat(19)).body(25, 4));
    }

    // "0 for 0 and 1 if it is not defined"
    private static void usesOfWhatIsNotDefined() {
        Book book = Checks.book("A=BC", "D=A");
        dueUses(book, 'B', "", "", "A", "AD");
        dueUses(book, 'C', "", "", "A", "AD");
        dueUses(book, 'E', "", "", "", "");
        book.remove(0);
        dueUses(book, 'A', "", "", "D", "D");
        dueUses(book, 'B', "", "", "", "");
        dueUses(book, 'D', "A", "A", "", "");
        dueUses(new Book(), 'A', "", "", "", "");
    }

    private static void usesOfTheFirstAndTheLast() {
        Book book = Checks.book("A=Z", "Z=A");
        dueUses(book, 'A', "Z", "AZ", "Z", "AZ");
        dueUses(book, 'Z', "A", "AZ", "A", "AZ");
        dueUses(Checks.book("M=b"), 'M', "", "", "", "");
        dueUses(Checks.book("M=M"), 'M', "M", "M", "M", "M");
        dueUses(Checks.book("M=U(V(W,X),Y)"), 'M', "UVWXY", "UVWXY", "", "");
        Book all = Checks.book("A=ABCDEFGHIJKLMNOPQRSTUVWXYZ");
        Checks.due("all of them", (1 << 26) - 1, all.uses(0, 0));
        Checks.due("all of them", (1 << 26) - 1, all.uses(0, 1));
    }

    private static void dueUses(Book book, char letter, String... want) {
        for (int what = 0; what <= 3; what++) {
            Checks.due("uses of " + letter + ", " + what, Checks.set(want[what]), book.uses(letter - 'A', what));
        }
    }

    private static void ringsAtTheEnds() {
        dueRings("");
        dueRings("", "A=a");
        dueRings("", "A=B");
        dueRings("", "A=B", "B=C");
        dueRings("A", "A=A");
        dueRings("Z", "Z=U(x,Z)");
        dueRings("AZ", "A=Z", "Z=A");
        dueRings("ABC", "A=B", "B=C", "C=A", "D=A");
        dueRings("BC", "A=B", "B=C", "C=B");
        dueRings("ABCD", "A=B", "B=A", "C=D", "D=C");
        Book book = Checks.book("A=B", "B=A");
        book.remove(1);
        Checks.due("a ring needs all its definitions", 0, book.rings());
        book.undo();
        Checks.due("then it is a ring again", Checks.set("AB"), book.rings());
    }

    private static void dueRings(String want, String... definitions) {
        Checks.due("rings of " + String.join(" ", definitions), Checks.set(want), Checks.book(definitions).rings());
    }

    // "the abbreviations that are called in a body, but are not defined"
    private static void missingAtTheEnds() {
        Checks.due("of a new book", 0, new Book().missing());
        Checks.due("without calls", 0, Checks.book("A=a", "B=?").missing());
        Checks.due("the first and the last", Checks.set("AZ"), Checks.book("B=AZ").missing());
        Checks.due("in arguments", Checks.set("BC"), Checks.book("A=A(B(C))").missing());
        Checks.due("all but one", (1 << 26) - 2, Checks.book("A=ABCDEFGHIJKLMNOPQRSTUVWXYZ").missing());
        Book book = Checks.book("A=B", "B=C");
        Checks.due("C", Checks.set("C"), book.missing());
        book.remove(1);
        Checks.due("B, and not C", Checks.set("B"), book.missing());
        Checks.type(book, "X");
        book.expand();
        Checks.due("not what the buffer calls", Checks.set("B"), book.missing());
    }

    // "0 if it is not defined"; "all of them are defined"
    private static void chainsAtTheEnds() {
        Book row = new Book();
        Checks.due("of a new book", 0, row.chain(0));
        Checks.due("of a new book", 0, row.chain(25));
        for (int letter = 25; letter >= 0; letter--) {
            Checks.define(row, (char) ('A' + letter) + "=" + (letter == 25 ? "" : (char) ('B' + letter)));
            Checks.due("chain of so many", 26 - letter, row.chain(letter));
        }
        Checks.due("the last one", 1, row.chain(25));
        row.remove(13);
        Checks.due("what is removed", 0, row.chain(13));
        Checks.due("it ends before", 13, row.chain(0));
        Checks.due("it ends before", 1, row.chain(12));
        Checks.due("behind it", 12, row.chain(14));
        Checks.due("calls of what is not defined", 1, Checks.book("A=XYZ").chain(0));
        Checks.due("the longest of some", 3, Checks.book("A=BCX", "B=", "C=D", "D=").chain(0));
        Checks.due("the longest of some", 3, Checks.book("A=XCB", "B=", "C=D", "D=").chain(0));
        Checks.due("in arguments", 3, Checks.book("A=X(B(C))", "B=D", "C=", "D=").chain(0));
    }

    // "NONE if there is no longest chain (it is in a ring, or one comes from it to a ring)"
    private static void chainsThatMeetRings() {
        Book book = Checks.book("A=A", "B=C", "C=B", "D=A", "E=Dxyz", "F=GE", "G=", "H=G");
        for (char letter = 'A'; letter <= 'F'; letter++) {
            Checks.due("chain of " + letter, -1, book.chain(letter - 'A'));
        }
        Checks.due("a ring elsewhere", 1, book.chain(6));
        Checks.due("a ring elsewhere", 2, book.chain(7));
        book.remove(0);
        Checks.due("without the ring", 1, book.chain(3));
        Checks.due("without the ring", 2, book.chain(4));
        Checks.due("without the ring", 3, book.chain(5));
        Checks.due("the other ring", -1, book.chain(1));
    }

    // "which abbreviations would be in a ring if the text of the buffer was the body of an abbreviation"
    private static void ifDefinedAtTheEnds() {
        dueIfDefined("", 'A', "");
        dueIfDefined("", 'A', "Z");
        dueIfDefined("A", 'A', "A");
        dueIfDefined("Z", 'Z', "xY(Z)");
        dueIfDefined("", 'A', "", "A=A");
        dueIfDefined("", 'A', "b", "A=B", "B=A");
        dueIfDefined("B", 'A', "B", "A=A", "B=B");
        dueIfDefined("AB", 'A', "B", "B=A");
        dueIfDefined("AB", 'A', "B", "A=", "B=A");
        dueIfDefined("B", 'C', "B", "B=B");
        dueIfDefined("BC", 'D', "B", "B=C", "C=B");
        dueIfDefined("BCD", 'D', "B", "B=C", "C=BD");
        dueIfDefined("AC", 'C', "A", "A=C", "B=A");
    }

    private static void dueIfDefined(String want, char letter, String text, String... definitions) {
        Book book = Checks.book(definitions);
        int defined = book.count(1);
        int rings = book.rings();
        Checks.type(book, text);
        Checks.due("ifDefined of " + letter + " as " + text, Checks.set(want), book.ifDefined(letter - 'A'));
        Checks.due("nothing is defined by it", defined, book.count(1));
        Checks.due("the rings stay", rings, book.rings());
        Checks.due("the buffer stays", text.length(), book.count(7));
        book.define(letter - 'A');
        Checks.due("when it is defined", Checks.set(want), book.rings());
    }

    // "queries about definitions; nothing changes"
    private static void queriesChangeNothing() {
        String want = Checks.factsOf(asked());
        for (int i = 0; i < 26; i++) {
            int letter = i;
            for (int j = 0; j <= 5; j++) {
                int what = j;
                dueUnchanged("body " + letter + ", " + what, want, book -> book.body(letter, what));
                dueUnchanged("uses " + letter + ", " + what, want, book -> book.uses(letter, what % 4));
            }
            dueUnchanged("chain " + letter, want, book -> book.chain(letter));
            dueUnchanged("ifDefined " + letter, want, book -> book.ifDefined(letter));
        }
        dueUnchanged("rings", want, Book::rings);
        dueUnchanged("missing", want, Book::missing);
    }

    /** Four states are saved, a snapshot is in slot 0, and the buffer holds another text. */
    private static Book asked() {
        Book book = Checks.book("A=a?B", "Z=A(Z)");
        Checks.expand(book, "A(b)?");
        book.keep(0);
        book.set(2);
        Checks.type(book, "B(Z)c");
        return book;
    }

    private static void dueUnchanged(String query, String want, ToIntFunction<Book> answer) {
        Book book = asked();
        answer.applyAsInt(book);
        Checks.due(query + " changes nothing", want, Checks.factsOf(book));
    }
}
