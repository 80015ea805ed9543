import java.util.function.Supplier;

/** Promises 14 to 19: body, uses, rings, missing, chain, ifDefined. */
public final class DefinitionQueriesTest {
    private static final int[] NO_LETTERS = {-1, 26, Integer.MIN_VALUE, Integer.MAX_VALUE};

    public static void main(String[] args) {
        bodyTellsNumbers();
        bodyRefuses();
        usesTellsSets();
        usesRefuses();
        ringsAreFound();
        missingOnesAreFound();
        chainsAreMeasured();
        chainRefuses();
        ifDefinedTriesTheBuffer();
        ifDefinedRefuses();
        queriesChangeNothing();
        Checks.end();
    }

    private static void bodyTellsNumbers() {
        dueBody("", "0 0 0 0 0 0");
        dueBody("ab_?", "4 1 0 0 0 3");
        dueBody("A", "1 0 1 0 1 0");
        dueBody("A()", "3 0 1 1 1 0");
        dueBody("AB()C", "5 0 3 1 1 0");
        dueBody("A(,,,,,)B(a,b)", "14 0 2 6 1 2");
        dueBody("A(B(C),?)D(E(F(G(_))),H)?", "25 2 8 2 4 1");
        dueBody("A(B,C(D))", "9 0 4 2 3 0");
        dueBody("A(b)A(A(?x))", "12 1 3 1 2 2");
        dueBody("A(a,B(,,),c)", "12 0 2 3 2 2");
        dueBody("A(".repeat(20) + ")".repeat(20), "60 0 20 1 20 0");
        dueBody("A(".repeat(19) + "B" + ")".repeat(19), "58 0 20 1 20 0");
        dueBody("?".repeat(60), "60 60 0 0 0 0");
        Book book = Checks.book("B=b");
        for (int what = 0; what <= 5; what++) {
            Checks.due("body of what is not defined", -1, book.body(0, what));
        }
    }

    private static void dueBody(String text, String want) {
        Book book = Checks.book("Z=" + text);
        StringBuilder got = new StringBuilder();
        for (int what = 0; what <= 5; what++) {
            got.append(what == 0 ? "" : " ").append(book.body(25, what));
        }
        Checks.due("body of " + text, want, got.toString());
    }

    private static void bodyRefuses() {
        for (int letter : NO_LETTERS) {
            Checks.refuses("body(" + letter + ", 0)", IndexOutOfBoundsException.class,
                    some(), book -> book.body(letter, 0));
            Checks.refuses("body(" + letter + ", 6)", IndexOutOfBoundsException.class,
                    some(), book -> book.body(letter, 6));
        }
        for (int what : new int[] {-1, 6, Integer.MIN_VALUE, Integer.MAX_VALUE}) {
            Checks.refuses("body(0, " + what + ")", IllegalArgumentException.class,
                    some(), book -> book.body(0, what));
            Checks.refuses("body(25, " + what + ")", IllegalArgumentException.class,
                    some(), book -> book.body(25, what));
        }
    }

    private static void usesTellsSets() {
        Book book = Checks.book("A=B(C)D", "B=aE()", "C=", "E=A(X)", "F=Bx", "Z=ZF");
        dueUses(book, 'A', "BCD", "ABCDEX", "E", "ABEFZ");
        dueUses(book, 'B', "E", "ABCDEX", "AF", "ABEFZ");
        dueUses(book, 'C', "", "", "A", "ABEFZ");
        dueUses(book, 'D', "", "", "A", "ABEFZ");
        dueUses(book, 'E', "AX", "ABCDEX", "B", "ABEFZ");
        dueUses(book, 'F', "B", "ABCDEX", "Z", "Z");
        dueUses(book, 'X', "", "", "E", "ABEFZ");
        dueUses(book, 'Z', "ZF", "ABCDEFXZ", "Z", "Z");
        dueUses(book, 'Y', "", "", "", "");
        book.remove(1);
        dueUses(book, 'A', "BCD", "BCD", "E", "E");
        dueUses(book, 'B', "", "", "AF", "AEFZ");
        // A way through all of them, against the order of the alphabet.
        Book longWay = new Book();
        for (char letter = 'B'; letter <= 'Z'; letter++) {
            Checks.define(longWay, letter + "=" + (char) (letter - 1));
        }
        Checks.due("down from Z", Checks.set("ABCDEFGHIJKLMNOPQRSTUVWXY"), longWay.uses(25, 1));
        Checks.due("up from A", Checks.set("BCDEFGHIJKLMNOPQRSTUVWXYZ"), longWay.uses(0, 3));
    }

    private static void dueUses(Book book, char letter, String... want) {
        for (int what = 0; what <= 3; what++) {
            Checks.due("uses of " + letter + ", " + what, Checks.set(want[what]), book.uses(letter - 'A', what));
        }
    }

    private static void usesRefuses() {
        for (int letter : NO_LETTERS) {
            Checks.refuses("uses(" + letter + ", 3)", IndexOutOfBoundsException.class,
                    some(), book -> book.uses(letter, 3));
            Checks.refuses("uses(" + letter + ", 4)", IndexOutOfBoundsException.class,
                    some(), book -> book.uses(letter, 4));
        }
        for (int what : new int[] {-1, 4, Integer.MIN_VALUE, Integer.MAX_VALUE}) {
            Checks.refuses("uses(0, " + what + ")", IllegalArgumentException.class,
                    some(), book -> book.uses(0, what));
            Checks.refuses("uses(25, " + what + ")", IllegalArgumentException.class,
                    some(), book -> book.uses(25, what));
        }
    }

    private static void ringsAreFound() {
        Book book = Checks.book("A=aB", "B=C(A)", "C=", "D=A", "Z=Q(Z)");
        Checks.due("rings", Checks.set("ABZ"), book.rings());
        Checks.define(book, "C=D");
        Checks.due("two rings that meet", Checks.set("ABCDZ"), book.rings());
        book.remove(0);
        Checks.due("without A", Checks.set("Z"), book.rings());
        book.remove(25);
        Checks.due("none", 0, book.rings());
        Book whole = new Book();
        for (char letter = 'A'; letter <= 'Z'; letter++) {
            Checks.define(whole, letter + "=" + (letter == 'Z' ? 'A' : (char) (letter + 1)));
        }
        Checks.due("all of them", (1 << 26) - 1, whole.rings());
    }

    private static void missingOnesAreFound() {
        Book book = Checks.book("A=B(C,D(E))", "C=", "E=Z");
        Checks.due("missing", Checks.set("BDZ"), book.missing());
        Checks.define(book, "Z=Z");
        Checks.due("without Z", Checks.set("BD"), book.missing());
        book.remove(0);
        Checks.due("what no body calls", 0, book.missing());
        book.remove(2);
        book.remove(25);
        Checks.due("Z again", Checks.set("Z"), book.missing());
    }

    private static void chainsAreMeasured() {
        Book book = Checks.book("A=BC", "B=C(D)", "C=", "D=E", "E=XF", "G=GA", "H=AG", "I=H");
        dueChain(book, "A", 4);
        dueChain(book, "B", 3);
        dueChain(book, "C", 1);
        dueChain(book, "D", 2);
        dueChain(book, "E", 1);
        dueChain(book, "FXZ", 0);
        dueChain(book, "GHI", -1);
        Checks.define(book, "X=C");
        dueChain(book, "A", 6);
        book.remove(6);
        dueChain(book, "I", 8);
        Book longest = new Book();
        for (char letter = 'A'; letter < 'Z'; letter++) {
            Checks.define(longest, letter + "=" + (char) (letter + 1));
        }
        dueChain(longest, "A", 25);
        Checks.define(longest, "Z=z");
        dueChain(longest, "A", 26);
        dueChain(longest, "B", 25);
        dueChain(longest, "Z", 1);
        Checks.define(longest, "Z=Y");
        dueChain(longest, "AMYZ", -1);
    }

    private static void dueChain(Book book, String letters, int want) {
        for (char letter : letters.toCharArray()) {
            Checks.due("chain of " + letter, want, book.chain(letter - 'A'));
        }
    }

    private static void chainRefuses() {
        for (int letter : NO_LETTERS) {
            Checks.refuses("chain(" + letter + ")", IndexOutOfBoundsException.class,
                    some(), book -> book.chain(letter));
        }
    }

    private static void ifDefinedTriesTheBuffer() {
        Book book = Checks.book("A=B", "B=C", "D=D", "E=E");
        dueIfDefined(book, 'C', "x", "DE");
        dueIfDefined(book, 'C', "x?B(y)", "BCDE");
        dueIfDefined(book, 'C', "Z(A)", "ABCDE");
        dueIfDefined(book, 'D', "C", "E");
        dueIfDefined(book, 'D', "", "E");
        dueIfDefined(book, 'Z', "Z", "DEZ");
        dueIfDefined(book, 'Z', "ABCDE", "DE");
        Checks.due("nothing is defined by it", Checks.set("ABDE"), book.count(1));
        Checks.due("the rings stay", Checks.set("DE"), book.rings());
        Checks.due("the chain stays", 2, book.chain(0));
        Checks.due("the buffer stays", 5, book.count(7));
    }

    private static void dueIfDefined(Book book, char letter, String text, String want) {
        Checks.type(book, text);
        Checks.due("ifDefined of " + letter + " as " + text, Checks.set(want), book.ifDefined(letter - 'A'));
    }

    private static void ifDefinedRefuses() {
        for (String text : new String[] {"A", "A(", "!"}) {
            for (int letter : NO_LETTERS) {
                Checks.refuses("ifDefined(" + letter + ") of " + text, IndexOutOfBoundsException.class,
                        with(text), book -> book.ifDefined(letter));
            }
        }
        for (String text : new String[] {"A(", "A(B()", "a)", "A(,,,,,,)", "A~"}) {
            Checks.refuses("ifDefined of " + text, IllegalArgumentException.class,
                    with(text), book -> book.ifDefined(25));
        }
    }

    private static void queriesChangeNothing() {
        Book asked = some().get();
        for (int letter = 0; letter < 4; letter++) {
            for (int what = 0; what <= 3; what++) {
                asked.body(letter, what);
                asked.uses(letter, what);
            }
            asked.chain(letter);
            asked.ifDefined(letter);
        }
        asked.rings();
        asked.missing();
        Checks.due("queries change nothing", Checks.factsOf(some().get()), Checks.factsOf(asked));
    }

    private static Supplier<Book> some() {
        return with("A(C)");
    }

    private static Supplier<Book> with(String text) {
        return () -> {
            Book book = Checks.book("A=a?B", "B=A(b)");
            Checks.expand(book, "B");
            book.keep(1);
            Checks.type(book, text);
            return book;
        };
    }
}
