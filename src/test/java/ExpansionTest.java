/** Promise 6: expand. */
public final class ExpansionTest {
    private static final String FIFTY = "a".repeat(50);

    public static void main(String[] args) {
        signsAreWrittenAsTheyAre();
        holesAreFilled();
        callsAreExpandedFromTheInside();
        ringsAreGuarded();
        depthIsBounded();
        guardedComesBeforeTooDeep();
        argumentsAreExpandedWhereTheCallStands();
        sixtyCallsAreTheMost();
        callsThatAreNotExpandedDoNotCount();
        twoHundredSignsAreTheMost();
        argumentsHaveTheSameBound();
        longArgumentsGoThroughAllBodies();
        failuresLeaveTheResult();
        failuresLeaveNothingBehind();
        expandIsUndoable();
        incompleteTextsAreRefused();
        Checks.end();
    }

    private static void dueText(Book book, String text, String want) {
        Checks.due("expansion of " + text, want, Checks.expand(book, text));
    }

    private static void signsAreWrittenAsTheyAre() {
        Book book = new Book();
        dueText(book, "", "");
        dueText(book, "az_b", "az_b");
        dueText(book, "a?b??", "a?b??");
        dueText(book, "A", "$");
        dueText(book, "xZ()y", "x$y");
        dueText(book, "M(b,?,C)N", "$$");
        Checks.due("the buffer stays", 9, book.count(7));
    }

    private static void holesAreFilled() {
        Book book = Checks.book("A=a?b?c", "B=", "C=????????");
        dueText(book, "A(x,yy)", "axbyyc");
        dueText(book, "A", "abc");
        dueText(book, "A()", "abc");
        dueText(book, "A(x)", "axbc");
        dueText(book, "A(,x)", "abxc");
        dueText(book, "A(x,y,z)", "axbyc");
        dueText(book, "B(x,y)", "");
        dueText(book, "C(p,q,r,s,t,u)", "pqrstu");
        dueText(book, "A(?,_?)", "a?b_?c");
    }

    private static void callsAreExpandedFromTheInside() {
        Book book = Checks.book("A=?B(?)?", "B=x?x", "C=B(?,?)A(B(?),A)?", "D=a?b?c");
        dueText(book, "A(p,q,r)", "pxqxr");
        dueText(book, "B(B(B(?)))", "xxx?xxx");
        dueText(book, "D(D(k,l),D(m))", "aakblcbambcc");
        // C(e,f,g,h): B(e,f) is xex; A(xgx,xx) is xgx, then x, xx, x; the hole 3 is h.
        dueText(book, "C(e,f,g,h)", "xexxgxxxxxh");
        dueText(book, "C(E,B,,A)", "x$xxxxxxxxx");
    }

    private static void ringsAreGuarded() {
        Book book = Checks.book("A=aA", "B=C(?)", "C=D?", "D=B_", "E=A(AE)");
        dueText(book, "A", "a#");
        dueText(book, "AA", "a#a#");
        dueText(book, "B(q)", "#_q");
        dueText(book, "D(q)", "#_");
        dueText(book, "C(C(C))", "#_#_#_");
        dueText(book, "E", "a#");
        Checks.due("the trace of E", "A2,2,0,1,0 A0,1,0,2,0 E2,1,0,1,0 A2,2,0,1,0 A0,1,1,2,3 E0,0,0,2,0",
                Checks.traceOf(book));
    }

    private static void depthIsBounded() {
        Book book = new Book();
        for (char letter = 'A'; letter < 'N'; letter++) {
            Checks.define(book, letter + "=" + (char) (letter - 'A' + 'a') + (char) (letter + 1));
        }
        Checks.define(book, "N=n");
        dueText(book, "A", "abcdefgh%");
        dueText(book, "F", "fghijklm%");
        dueText(book, "G", "ghijklmn");
        book.set(12);
        dueText(book, "A", "abcdefghijkl%");
        Checks.due("its depth", 12, book.result(6));
        dueText(book, "C", "cdefghijklmn");
        book.set(1);
        dueText(book, "AN", "a%n");
        dueText(book, "N(N(N(N)))", "n");
        book.remove(1);
        dueText(book, "A", "a$");
    }

    private static void guardedComesBeforeTooDeep() {
        Book book = Checks.book("A=ABC", "B=b");
        book.set(1);
        dueText(book, "A", "#%$");
        book.set(2);
        dueText(book, "A", "#b$");
    }

    private static void argumentsAreExpandedWhereTheCallStands() {
        Book book = Checks.book("A=?A(B)", "B=b", "C=A(?,C,B)");
        dueText(book, "A(A(x))", "x##");
        Checks.due("arguments first", "B0,1,0,1,0 A2,1,1,1,1 A0,0,1,2,1 B0,1,0,1,0 A2,1,1,1,1 A0,0,1,3,2",
                Checks.traceOf(book));
        dueText(book, "C(y)", "y#");
        Checks.due("arguments without a hole are expanded, too",
                "C2,1,0,1,0 B0,1,0,1,0 B0,2,0,1,0 A2,2,1,1,1 A0,1,3,2,3 C0,0,1,2,1", Checks.traceOf(book));
        book.set(1);
        dueText(book, "A(x)", "x#");
        Checks.due("too deep in an argument", "B3,1,0,1,0 A2,1,1,1,1 A0,0,1,2,1", Checks.traceOf(book));
    }

    private static void sixtyCallsAreTheMost() {
        Book book = Checks.book("A=BBBBBBBBB", "B=", "C=", "D=z");
        dueText(book, "AAAAAA", "");
        Checks.due("expanded calls", 60, book.result(5));
        Checks.due("listed calls", 60, book.result(7));
        dueText(book, "AAAAAAB", "failed");
        dueText(book, "AAAAAC(D,D,D,D,D,D)CCC", "");
        Checks.due("dropped arguments count", 60, book.result(5));
        dueText(book, "AAAAAC(D,D,D,D,D,D)CCCC", "failed");
        dueText(book, "E(D)AAAAAE(D,D,D,D,D,D)CCC", "$$");
        dueText(book, "E(D)AAAAAE(D,D,D,D,D,D)CCCD", "failed");
    }

    private static void callsThatAreNotExpandedDoNotCount() {
        Book book = Checks.book("A=BBBBBBBBB");
        dueText(book, "AAAAAA", "$".repeat(54));
        dueText(book, "AAAAAABBBBBBBBBBBBB", "$".repeat(67));
        Checks.due("only the first 60 are listed", 60, book.result(7));
        Checks.due("the last one that is listed", "B A", (char) ('A' + book.trace(58, 0)) + " "
                + (char) ('A' + book.trace(59, 0)));
        Checks.due("none behind it", -1, book.trace(60, 0));
    }

    private static Book longBook() {
        return Checks.book("A=" + FIFTY, "B=", "C=AAAA", "D=??", "E=B(C?)");
    }

    private static void twoHundredSignsAreTheMost() {
        String full = "a".repeat(200);
        dueText(longBook(), "AAAA", full);
        dueText(longBook(), "AAAAa", "failed");
        dueText(longBook(), "aAAAA", "failed");
        dueText(longBook(), "C", full);
        dueText(longBook(), "C?", "failed");
        dueText(longBook(), "CX", "failed");
        dueText(longBook(), "D(AA,AA)", full);
        dueText(longBook(), "D(AA,AAa)", "failed");
        dueText(longBook(), "B(B(C),C)C", full);
    }

    private static void argumentsHaveTheSameBound() {
        Book book = longBook();
        dueText(book, "B(C)", "");
        dueText(book, "B(C_)", "failed");
        dueText(book, "X(C_)", "failed");
        dueText(book, "B(C,C)", "");
        Checks.due("two arguments are each measured alone", 400, book.trace(book.result(7) - 1, 5));
        dueText(book, "E", "");
        dueText(book, "E(_)", "failed");
    }

    /** Six arguments, handed on by eleven bodies. */
    private static Book handingOn(String last) {
        Book book = Checks.book("X=" + FIFTY);
        for (char letter = 'A'; letter < 'L'; letter++) {
            Checks.define(book, letter + "=" + (char) (letter + 1) + "(?,?,?,?,?,?)");
        }
        Checks.define(book, "L=" + last);
        book.set(12);
        return book;
    }

    private static void longArgumentsGoThroughAllBodies() {
        Book book = handingOn("?");
        Checks.type(book, "A(XXXX,XXXX,XXXX,XXXX,XXXX,XXXX)");
        Checks.due("the length", 200, book.expand());
        Checks.due("expanded calls", 36, book.result(5));
        Checks.due("the arguments of L", 1200, book.trace(24, 5));
        Checks.due("what is measured", 20, book.lengthOf(0, 20));
        Checks.due("the first sign", 'a', book.sign(0));
        Checks.due("the last sign", 'a', book.sign(199));
        Checks.due("behind it", -1, book.sign(200));
        Book four = handingOn("????");
        Checks.type(four, "A(X,X,X,X,X,X)");
        Checks.due("four of them", 200, four.expand());
        dueText(four, "A(X,X,X,X_,X,X)", "failed");
        dueText(handingOn(""), "A(XXXX,XXXX,XXXX,XXXX,XXXX,XXXX)", "");
    }

    private static void failuresLeaveTheResult() {
        Book book = Checks.book("A=" + FIFTY, "B=x?");
        dueText(book, "B(y)", "xy");
        Checks.type(book, "AAAAA");
        Checks.due("a failure", -1, book.expand());
        Checks.due("the result stays", "xy", Checks.resultOf(book));
        Checks.due("the trace stays", "B0,0,1,2,1", Checks.traceOf(book));
        Checks.due("expanded calls stay", 1, book.result(5));
        Checks.due("the buffer stays", 5, book.count(7));
        Checks.due("those that did not fail", 1, book.count(3));
        Checks.due("those that failed", 1, book.count(4));
    }

    /** An expansion that stops in the middle of many open calls is no burden for the next ones. */
    private static void failuresLeaveNothingBehind() {
        Book book = Checks.book("A=" + FIFTY, "B=x?");
        Checks.type(book, "B(B(B(B(B(B(B(B(AAAAA))))))))");
        for (int i = 1; i <= 300; i++) {
            book.expand();
        }
        Checks.due("all of them failed", 300, book.count(4));
        dueText(book, "B(B(B(B(B(B(B(B(A))))))))", "x".repeat(8) + FIFTY);
        Checks.due("lengthOf", 21, book.lengthOf(1, 20));
    }

    private static void expandIsUndoable() {
        Book book = Checks.book("A=" + FIFTY);
        Checks.expand(book, "b");
        Checks.expand(book, "cdC");
        Checks.expand(book, "AAAAAA");
        Checks.due("saved", 4, book.count(6));
        Checks.due("undo of a failure", 3, book.undo());
        Checks.due("no failure", 0, book.count(4));
        Checks.due("the result", "cd$", Checks.resultOf(book));
        Checks.due("undo of an expansion", 2, book.undo());
        Checks.due("the result before", "b", Checks.resultOf(book));
        Checks.due("its trace", "", Checks.traceOf(book));
        Checks.due("one expansion", 1, book.count(3));
        Checks.due("the buffer stays", 6, book.count(7));
    }

    private static void incompleteTextsAreRefused() {
        for (String text : new String[] {"A(", "A(b,", "A(B(c)", ")", "a,", "a(", "A(,,,,,,)", "aB!"}) {
            Checks.refuses("expand of " + text, IllegalArgumentException.class, () -> {
                Book book = Checks.book("A=a?");
                Checks.expand(book, "A(b)");
                Checks.type(book, text);
                return book;
            }, Book::expand);
        }
    }
}
