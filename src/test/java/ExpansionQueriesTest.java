import java.util.function.Supplier;

/** Promises 20 to 25: sign, result, trace, lengthOf, count, meanHoles. */
public final class ExpansionQueriesTest {
    private static final int[] NO_LETTERS = {-1, 26, Integer.MIN_VALUE, Integer.MAX_VALUE};

    public static void main(String[] args) {
        signTellsCodes();
        resultTellsNumbers();
        traceTellsCalls();
        traceListsSixtyCalls();
        lengthOfCountsArguments();
        lengthOfMeetsTheBounds();
        lengthOfFollowsTheState();
        lengthOfRefuses();
        countTellsNumbers();
        meanHolesDivides();
        numbersThatAreNot();
        queriesChangeNothing();
        Checks.end();
    }

    private static void signTellsCodes() {
        Book book = Checks.book("A=A", "B=b?");
        book.set(1);
        Checks.expand(book, "a_?ACB(z)");
        int[] want = {'a', '_', '?', '#', '$', 'b', 'z', -1, -1};
        for (int i = 0; i < want.length; i++) {
            Checks.due("sign(" + i + ")", want[i], book.sign(i));
        }
        Checks.due("sign far behind", -1, book.sign(Integer.MAX_VALUE));
        Checks.expand(book, "xy");
        Checks.due("behind a shorter result", -1, book.sign(2));
        Checks.expand(book, "");
        Checks.due("of an empty result", -1, book.sign(0));
        Checks.expand(book, "a".repeat(60));
        Checks.due("the last one", 'a', book.sign(59));
        Checks.due("behind the last one", -1, book.sign(60));
    }

    private static void resultTellsNumbers() {
        Book book = Checks.book("A=A?B(?)", "B=CC?", "C=DX", "D=d");
        dueResult(book, "xA(?)YA(?,_)?", "16 2 0 5 3 12 4 19");
        book.set(2);
        dueResult(book, "A(?)Z", "5 1 2 1 1 2 2 6");
        dueResult(book, "", "0 0 0 0 0 0 0 0");
        dueResult(book, "Z", "1 0 0 1 0 0 0 1");
        dueResult(book, "B(?)", "5 0 2 2 1 3 2 7");
    }

    private static void dueResult(Book book, String text, String want) {
        Checks.expand(book, text);
        StringBuilder got = new StringBuilder();
        for (int what = 0; what <= 7; what++) {
            got.append(what == 0 ? "" : " ").append(book.result(what));
        }
        Checks.due("result of " + text, want, got.toString());
    }

    private static void traceTellsCalls() {
        Book book = Checks.book("A=B(?,x)", "B=?C?", "C=AZ(,y)");
        Checks.expand(book, "A(pq,r)");
        // C stands in two bodies, A and B; its A is guarded, and its Z is not defined.
        Checks.due("the trace", "A2,3,0,1,0 Z1,3,2,1,1 C0,2,0,2,0 B0,1,2,5,3 A0,0,2,5,3", Checks.traceOf(book));
        Checks.due("the result", "pq#$x", Checks.resultOf(book));
        for (int what = 0; what <= 5; what++) {
            Checks.due("behind the last one", -1, book.trace(5, what));
            Checks.due("far behind", -1, book.trace(Integer.MAX_VALUE, what));
        }
        book.set(2);
        Checks.expand(book, "A");
        Checks.due("too deep", "C3,2,0,1,0 B0,1,2,2,1 A0,0,0,2,0", Checks.traceOf(book));
        Checks.expand(book, "W(X(Y(a),b),_)");
        Checks.due("arguments of what is not defined",
                "Y1,0,1,1,1 X1,0,2,1,2 W1,0,2,1,2", Checks.traceOf(book));
        Checks.expand(book, "abc");
        Checks.due("no calls", -1, book.trace(0, 0));
    }

    private static void traceListsSixtyCalls() {
        Book book = Checks.book("A=" + "X".repeat(40), "B=" + "Y".repeat(19));
        Checks.expand(book, "AB");
        Checks.due("listed", 60, book.result(7));
        Checks.due("the 41st", 0, book.trace(40, 0));
        Checks.due("the last one", 'Y' - 'A', book.trace(59, 0));
        Checks.due("none behind", -1, book.trace(60, 0));
        Checks.due("B is not listed, but expanded", 2, book.result(5));
        Checks.expand(book, "X".repeat(59));
        Checks.due("listed", 59, book.result(7));
        Checks.due("none behind", -1, book.trace(59, 0));
        Checks.expand(book, "X".repeat(60));
        Checks.due("listed", 60, book.result(7));
    }

    private static void lengthOfCountsArguments() {
        Book book = Checks.book("A=a?b?c", "B=A(?,?)?", "C=", "D=A(A(?),xZ)D", "E=?C(?)?C",
                "F=?????????", "G=F(?,?,?,?,?,?)");
        dueLength(book, 'A', 0, 3);
        dueLength(book, 'A', 2, 7);
        dueLength(book, 'A', 20, 43);
        dueLength(book, 'B', 1, 6);
        dueLength(book, 'B', 20, 63);
        dueLength(book, 'C', 20, 0);
        dueLength(book, 'D', 5, 3 + 3 + 5 + 2 + 1);
        dueLength(book, 'E', 7, 14);
        dueLength(book, 'F', 20, 180);
        dueLength(book, 'G', 20, 120);
        dueLength(book, 'H', 0, -1);
        dueLength(book, 'Z', 20, -1);
    }

    private static void lengthOfMeetsTheBounds() {
        Book book = Checks.book("A=" + "?".repeat(10), "B=" + "?".repeat(10) + "a",
                "C=D(" + "?".repeat(10) + ")", "D=", "E=D(?????,??????)D(" + "?".repeat(10) + "a)");
        dueLength(book, 'A', 20, 200);
        dueLength(book, 'B', 20, -1);
        dueLength(book, 'B', 19, 191);
        dueLength(book, 'C', 20, 0);
        dueLength(book, 'E', 20, -1);
        dueLength(book, 'E', 19, 0);
        Book full = Checks.book("A=" + "?".repeat(60));
        dueLength(full, 'A', 3, 180);
        dueLength(full, 'A', 4, -1);
        Book many = Checks.book("A=" + "B".repeat(5) + "D".repeat(4), "B=CCCCCCCCCC", "C=", "D=",
                "E=A", "F=A(D)");
        dueLength(many, 'A', 0, 0);
        dueLength(many, 'E', 0, -1);
        Checks.define(many, "A=" + "B".repeat(5) + "DDD");
        dueLength(many, 'E', 0, 0);
        dueLength(many, 'F', 0, -1);
    }

    private static void lengthOfFollowsTheState() {
        Book book = Checks.book("A=xB", "B=yyC", "C=zzzzA");
        dueLength(book, 'A', 0, 8);
        book.set(2);
        dueLength(book, 'A', 0, 4);
        book.set(1);
        dueLength(book, 'A', 0, 2);
        book.remove(1);
        dueLength(book, 'A', 0, 2);
        dueLength(book, 'B', 0, -1);
    }

    private static void dueLength(Book book, char letter, int length, int want) {
        Checks.due("lengthOf " + letter + " with " + length, want, book.lengthOf(letter - 'A', length));
    }

    private static void lengthOfRefuses() {
        for (int letter : NO_LETTERS) {
            Checks.refuses("lengthOf(" + letter + ", 0)", IndexOutOfBoundsException.class,
                    some(), book -> book.lengthOf(letter, 0));
            Checks.refuses("lengthOf(" + letter + ", 21)", IndexOutOfBoundsException.class,
                    some(), book -> book.lengthOf(letter, 21));
        }
        for (int length : new int[] {-1, 21, Integer.MIN_VALUE, Integer.MAX_VALUE}) {
            Checks.refuses("lengthOf(0, " + length + ")", IllegalArgumentException.class,
                    some(), book -> book.lengthOf(0, length));
            Checks.refuses("lengthOf(25, " + length + ")", IllegalArgumentException.class,
                    some(), book -> book.lengthOf(25, length));
        }
    }

    private static void countTellsNumbers() {
        Book book = Checks.book("A=BC(D)?", "Z=A", "C=" + "a".repeat(60));
        dueCounts(book, "3 " + Checks.set("ACZ") + " 8 0 0 4 3 0");
        Checks.expand(book, "Z");
        Checks.expand(book, "CCCC");
        Checks.type(book, "A(");
        dueCounts(book, "3 " + Checks.set("ACZ") + " 8 1 1 4 5 2");
        book.set(11);
        book.remove(0);
        dueCounts(book, "2 " + Checks.set("CZ") + " 11 1 1 1 6 2");
        book.undo();
        dueCounts(book, "3 " + Checks.set("ACZ") + " 11 1 1 4 5 2");
    }

    private static void dueCounts(Book book, String want) {
        Checks.due("counts", want, Checks.countsOf(book));
    }

    private static void meanHolesDivides() {
        Book book = new Book();
        Checks.due("without definitions", 0.0, book.meanHoles());
        Checks.define(book, "A=B(?,?)");
        Checks.due("of one", 2.0, book.meanHoles());
        Checks.define(book, "B=");
        Checks.define(book, "Z=???");
        Checks.due("of three", 5.0 / 3.0, book.meanHoles());
        book.remove(0);
        Checks.due("of two", 1.5, book.meanHoles());
        book.remove(25);
        Checks.due("without holes", 0.0, book.meanHoles());
        book.remove(1);
        Checks.due("without definitions again", 0.0, book.meanHoles());
    }

    private static void numbersThatAreNot() {
        for (int wrong : new int[] {-1, Integer.MIN_VALUE}) {
            Checks.refuses("sign(" + wrong + ")", IllegalArgumentException.class,
                    some(), book -> book.sign(wrong));
            Checks.refuses("trace(" + wrong + ", 0)", IllegalArgumentException.class,
                    some(), book -> book.trace(wrong, 0));
        }
        for (int wrong : new int[] {-1, 8, Integer.MIN_VALUE, Integer.MAX_VALUE}) {
            Checks.refuses("result(" + wrong + ")", IllegalArgumentException.class,
                    some(), book -> book.result(wrong));
            Checks.refuses("count(" + wrong + ")", IllegalArgumentException.class,
                    some(), book -> book.count(wrong));
        }
        for (int wrong : new int[] {-1, 6, Integer.MIN_VALUE, Integer.MAX_VALUE}) {
            Checks.refuses("trace(0, " + wrong + ")", IllegalArgumentException.class,
                    some(), book -> book.trace(0, wrong));
            Checks.refuses("trace(99, " + wrong + ")", IllegalArgumentException.class,
                    some(), book -> book.trace(99, wrong));
        }
    }

    private static void queriesChangeNothing() {
        Book asked = some().get();
        for (int i = 0; i <= 5; i++) {
            asked.sign(i);
            asked.result(i);
            asked.trace(0, i);
            asked.lengthOf(i, i);
            asked.count(i);
        }
        asked.meanHoles();
        Checks.due("queries change nothing", Checks.factsOf(some().get()), Checks.factsOf(asked));
    }

    private static Supplier<Book> some() {
        return () -> {
            Book book = Checks.book("A=a?B(?)", "B=?C?");
            Checks.expand(book, "A(b)");
            book.keep(0);
            Checks.type(book, "AB(?");
            return book;
        };
    }
}
