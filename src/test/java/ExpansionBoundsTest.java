/** The boundary sentences of "Expansion", "Trace" and "Settings", and of promises 5 and 6. */
public final class ExpansionBoundsTest {
    public static void main(String[] args) {
        smallSignsAreWrittenAsTheyAre();
        whatAResultConsistsOf();
        fromLeftToRight();
        fromTheInsideToTheOutside();
        argumentsStandWhereTheCallStands();
        depthsOfExpandedCalls();
        eachHoleWithEachNumberOfArguments();
        holesOutsideOfBodies();
        argumentsWithoutAHole();
        eachDepth();
        theDepthAtFirst();
        guardedInWhatBodies();
        endingsInTheirOrder();
        sixtyExpandedCalls();
        otherCallsAreNotCounted();
        twoHundredSignsOfTheResult();
        twoHundredSignsOfABody();
        twoHundredSignsOfAnArgument();
        argumentsOfCallsThatAreNotExpanded();
        eachArgumentAlone();
        sixtyCallsInTheTrace();
        failuresChangeTheirCountAlone();
        nothingExpandedYet();
        noCallsExpanded();
        theTextIsExpandedAsTheBookIsNow();
        Checks.end();
    }

    private static void dueText(Book book, String text, String want) {
        Checks.due("expansion of " + text, want, Checks.expand(book, text));
    }

    // "A small letter or "_" is written as it is."
    private static void smallSignsAreWrittenAsTheyAre() {
        String signs = "abcdefghijklmnopqrstuvwxyz_";
        dueText(new Book(), signs, signs);
        for (int i = 0; i < signs.length(); i++) {
            String sign = signs.substring(i, i + 1);
            dueText(new Book(), sign, sign);
            Book book = Checks.book("A=" + sign + "?");
            dueText(book, "A", sign);
            dueText(book, sign + "A(" + sign + sign + ")", sign.repeat(4));
            Checks.due("code of " + sign, sign.charAt(0), book.sign(3));
        }
    }

    // "a result, which consists of small letters, "_" and the signs "#", "%", "$" and "?""
    private static void whatAResultConsistsOf() {
        Book book = Checks.book("A=a?AC(?)", "C=cDB", "D=d");
        book.set(2);
        dueText(book, "?A(m)z_", "?am#c%$z_");
        for (int what = 1; what <= 4; what++) {
            Checks.due("each sign once", 1, book.result(what));
        }
    }

    // "The expansion goes from left to right"; "first its arguments are expanded, from left to right"
    private static void fromLeftToRight() {
        Book book = Checks.book("A=?U?V?");
        dueText(book, "aAbB(C,D(E),F)cGd", "a$$b$c$d");
        Checks.due("the trace", "U1,1,0,1,0 V1,1,0,1,0 A0,0,0,2,0 C1,0,0,1,0 E1,0,0,1,0 D1,0,1,1,1"
                + " F1,0,0,1,0 B1,0,3,1,3 G1,0,0,1,0", Checks.traceOf(book));
        Checks.define(book, "B=x?y?z?");
        dueText(book, "B(A(a,b,c),A(d,e),A(f))", "xa$b$cyd$e$zf$$");
    }

    // "a call is finished when its arguments are expanded and .. its body is expanded"
    private static void fromTheInsideToTheOutside() {
        Book book = Checks.book("A=xB(?)y", "B=C(?)");
        dueText(book, "A(Z)", "x$y");
        Checks.due("the trace", "Z1,0,0,1,0 C1,2,1,1,1 B0,1,1,1,1 A0,0,1,3,1", Checks.traceOf(book));
    }

    // "Arguments of a call stand where the call stands, not in the body of its abbreviation."
    private static void argumentsStandWhereTheCallStands() {
        Book book = Checks.book("A=?", "B=A(A(A(B)))", "C=C(C)");
        dueText(book, "A(A(U))", "$");
        Checks.due("in no body", "U1,0,0,1,0 A0,0,1,1,1 A0,0,1,1,1", Checks.traceOf(book));
        dueText(book, "B", "#");
        Checks.due("in one body", "B2,1,0,1,0 A0,1,1,1,1 A0,1,1,1,1 A0,1,1,1,1 B0,0,0,1,0", Checks.traceOf(book));
        dueText(book, "C(C)", "#");
        Checks.due("in its own body", "C2,1,0,1,0 C2,1,1,1,1 C0,0,0,1,0 C2,1,0,1,0 C2,1,1,1,1 C0,0,1,1,1",
                Checks.traceOf(book));
        book.set(1);
        dueText(book, "A(A(A(x)))", "x");
        dueText(book, "B", "%");
        Checks.due("too deep", "B2,1,0,1,0 A3,1,1,1,1 A3,1,1,1,1 A3,1,1,1,1 B0,0,0,1,0", Checks.traceOf(book));
    }

    // "an expanded call, whose depth is the number of bodies that are open in it, its own one included"
    private static void depthsOfExpandedCalls() {
        String[] texts = {"x", "U(V)", "A(x)", "UA(U)U", "A(A(A(x)))", "B(A(x))", "A(B(x))", "C(x)", "A(C(x))",
            "C(x)A", "A(x)C", "U(C)"};
        int[] want = {0, 0, 1, 1, 1, 2, 2, 3, 3, 3, 3, 3};
        Book book = Checks.book("A=?", "B=A(?)", "C=B(?)");
        for (int i = 0; i < texts.length; i++) {
            Checks.expand(book, texts[i]);
            Checks.due("greatest depth of " + texts[i], want[i], book.result(6));
        }
    }

    // "A hole of a body is filled with the argument .. that has the number of the hole ..; with
    // nothing if the call has not so many arguments."
    private static void eachHoleWithEachNumberOfArguments() {
        String letters = "pqrstu";
        for (int holes = 0; holes <= 8; holes++) {
            Book book = Checks.book("A=x" + "?_".repeat(holes));
            dueText(book, "A", "x" + "_".repeat(holes));
            dueText(book, "A()", "x" + "_".repeat(holes));
            for (int arguments = 1; arguments <= 6; arguments++) {
                StringBuilder want = new StringBuilder("x");
                for (int hole = 0; hole < holes; hole++) {
                    want.append(hole < arguments ? letters.substring(hole, hole + 1) : "").append('_');
                }
                String given = String.join(",", letters.substring(0, arguments).split(""));
                dueText(book, "A(" + given + ")", want.toString());
            }
        }
        dueText(Checks.book("A=B(?,C(?)?)?", "B=k?l?m", "C=c?"), "A(p,q,r,s)", "kplcqrms");
        dueText(Checks.book("A=B(?,C(?)?)?", "B=k?l?m", "C=c?"), "A(,q)", "klcqm");
    }

    // "A hole that is not in a body is written as "?"."
    private static void holesOutsideOfBodies() {
        Book book = Checks.book("A=x?", "B=A(?)y?");
        dueText(book, "?", "?");
        dueText(book, "A(?)", "x?");
        dueText(book, "A(A(?)?)", "xx??");
        dueText(book, "B(?,?)?", "x?y??");
        Checks.due("they are counted", 3, book.result(4));
        dueText(book, "B", "xy");
        Checks.due("holes of bodies are not", 0, book.result(4));
        dueText(book, "U(?)", "$");
        Checks.due("dropped ones are not", 0, book.result(4));
    }

    // "Arguments that have no hole are expanded, too, and are dropped then."
    private static void argumentsWithoutAHole() {
        Book book = Checks.book("A=a", "B=b?");
        dueText(book, "A(B(x),U,A)", "a");
        Checks.due("they are expanded", "B0,0,1,2,1 U1,0,0,1,0 A0,0,0,1,0 A0,0,3,1,4", Checks.traceOf(book));
        Checks.due("they count", 3, book.result(5));
        Checks.due("their signs do not", 0, book.result(3));
        dueText(book, "B(x,B(y))", "bx");
        Checks.due("behind the last hole", "B0,0,1,2,1 B0,0,2,2,3", Checks.traceOf(book));
    }

    /** A calls B, and so on to N, which calls none. */
    private static Book row(int depth) {
        Book book = new Book();
        for (char letter = 'A'; letter < 'N'; letter++) {
            Checks.define(book, letter + "=" + Character.toLowerCase(letter) + (char) (letter + 1));
        }
        Checks.define(book, "N=n");
        book.set(depth);
        return book;
    }

    // "0: the greatest depth, 1 to 12"; "if as many bodies are open .. as the setting 0 tells"
    private static void eachDepth() {
        String letters = "abcdefghijklmn";
        for (int depth = 1; depth <= 12; depth++) {
            Book book = row(depth);
            Checks.due("the setting", depth, book.count(2));
            dueText(book, "A", letters.substring(0, depth) + "%");
            Checks.due("too deep", 1, book.result(2));
            Checks.due("expanded", depth, book.result(5));
            Checks.due("the greatest depth", depth, book.result(6));
            Checks.due("ending of the deepest call", 3, book.trace(0, 1));
            Checks.due("bodies that were open there", depth, book.trace(0, 2));
            Checks.due("bodies that were open before", depth - 1, book.trace(1, 2));
            Checks.due("the length", depth + 1, book.lengthOf(0, 20));
            // The last one that is not too deep: as many bodies as the setting tells.
            dueText(book, "" + (char) ('O' - depth), letters.substring(14 - depth));
            Checks.due("none is too deep", 0, book.result(2));
            Checks.due("the greatest depth", depth, book.result(6));
            Checks.due("the length", depth, book.lengthOf(14 - depth, 0));
            dueText(book, "" + (char) ('N' - depth), letters.substring(13 - depth, 13) + "%");
        }
    }

    // "at first 8"
    private static void theDepthAtFirst() {
        Book book = row(9);
        book.undo();
        Checks.due("the setting", 8, book.count(2));
        dueText(book, "A", "abcdefgh%");
        dueText(book, "G", "ghijklmn");
        Checks.due("set(12)", 8, book.set(12));
        Checks.due("set(1)", 12, book.set(1));
        Checks.due("set(1)", 1, book.set(1));
        Checks.due("the setting", 1, book.count(2));
    }

    // "if the call stands in the body of this abbreviation, or in a body whose call stands in it, and so on"
    private static void guardedInWhatBodies() {
        Book book = Checks.book("A=aA", "B=bC", "C=cD", "D=dB?", "E=eE(x)", "F=?", "G=F(G)F(F(y))");
        dueText(book, "A", "a#");
        dueText(book, "B", "bcd#");
        dueText(book, "C", "cdb#");
        dueText(book, "E", "e#");
        dueText(book, "G", "#y");
        Checks.due("what is guarded", 1, book.result(1));
        // Where no body of it is open, it is not guarded: beside it, and in its arguments.
        dueText(book, "AA", "a#a#");
        dueText(book, "F(F(F(z)))", "z");
        dueText(book, "D(D(D))", "dbc#dbc#dbc#");
        // A ring of as many bodies as the depth allows is guarded, not too deep.
        book.set(3);
        dueText(book, "B", "bcd#");
        book.set(2);
        dueText(book, "B", "bc%");
        book.set(1);
        dueText(book, "A", "a#");
    }

    // The endings 1 to 4: the first one that applies.
    private static void endingsInTheirOrder() {
        Book book = Checks.book("A=UAB", "B=b");
        book.set(1);
        dueText(book, "A", "$#%");
        Checks.due("the trace", "U1,1,0,1,0 A2,1,0,1,0 B3,1,0,1,0 A0,0,0,3,0", Checks.traceOf(book));
        book.set(2);
        dueText(book, "A", "$#b");
        book.remove(1);
        dueText(book, "A", "$#$");
        book.remove(0);
        dueText(book, "A", "$");
    }

    // "An expansion fails if more than 60 calls are expanded in it"
    private static void sixtyExpandedCalls() {
        Book book = Checks.book("Y=ZZZZZZZZZ", "Z=", "X=?");
        dueText(book, "Z".repeat(59), "");
        Checks.due("59 of them", 59, book.result(5));
        dueText(book, "Z".repeat(60), "");
        Checks.due("60 of them", 60, book.result(5));
        dueText(book, "YYYYYZZZZZZZZZ", "");
        Checks.due("59 of them", 59, book.result(5));
        dueText(book, "YYYYYZZZZZZZZZZ", "");
        Checks.due("60 of them", 60, book.result(5));
        dueText(book, "YYYYYZZZZZZZZZZZ", "failed");
        dueText(book, "ZYYYYYY", "failed");
        dueText(book, "YYYYYYU(Z)", "failed");
        Checks.due("60 of them", 60, book.result(5));
        dueText(book, "X(YYYYYZZZZZZZZZ)", "");
        Checks.due("60 of them", 60, book.result(5));
        dueText(book, "X(YYYYYZZZZZZZZZZ)", "failed");
        Checks.due("those that failed", 4, book.count(4));
    }

    private static void otherCallsAreNotCounted() {
        Book book = Checks.book("X=ZZZZZZZZZX", "Z=");
        dueText(book, "XXXXXX", "######");
        Checks.due("60 of them", 60, book.result(5));
        dueText(book, "XXXXXXUUUU(U)", "######$$$$");
        Checks.due("60 of them", 60, book.result(5));
        dueText(book, "XXXXXXZ", "failed");
        book.set(1);
        dueText(book, "X".repeat(10), "%%%%%%%%%#".repeat(10));
        Checks.due("10 of them", 10, book.result(5));
    }

    /** A is of 50 signs, B of 49; depth 1. E writes what it is given, and one sign more. */
    private static Book longBook(String last) {
        Book book = Checks.book("A=" + "a".repeat(50), "B=" + "b".repeat(49), "E=?" + last, "F=?", "H=");
        book.set(1);
        return book;
    }

    // ".. or a text that is written would be longer than 200 signs: the result"
    private static void twoHundredSignsOfTheResult() {
        for (String last : new String[] {"a", "_", "?", "U", "U(x)", "F(?)"}) {
            dueLength("", "AABB" + last, 199);
            dueLength("", "AAAB" + last, 200);
            dueLength("", "AAAA" + last, -1);
        }
        dueLength("", "AAAA", 200);
        dueLength("", "AAAAH", 200);
        dueLength("", "HAAAAH(AAAA)", 200);
        dueLength("", "aAAAA", -1);
        dueLength("", "F(AA)F(AA)", 200);
        dueLength("", "F(AA)F(AA_)", -1);
    }

    // The result that a body writes: what the argument is filled with, and one sign of each kind.
    private static void twoHundredSignsOfABody() {
        for (String last : new String[] {"a", "_", "U", "E", "F", "U(b)"}) {
            dueLength(last, "E(AABB)", 199);
            dueLength(last, "E(AAAB)", 200);
            dueLength(last, "E(AAAA)", -1);
        }
        dueLength("", "E(AAAA)", 200);
        dueLength("?", "E(AA,AA)", 200);
        dueLength("?", "E(AAa,AA)", -1);
        dueLength("?", "E(AA,AAa)", -1);
    }

    // ".. or an argument as it is expanded."
    private static void twoHundredSignsOfAnArgument() {
        for (String last : new String[] {"a", "_", "?", "U", "F(x)"}) {
            for (String call : new String[] {"U(", "H(", "U(b,", "H(,", "F(b,"}) {
                int written = call.equals("H(") || call.equals("H(,") ? 0 : 1;
                dueLength("", call + "AAAB" + last + ")", written);
                dueLength("", call + "AAAA" + last + ")", -1);
            }
            dueLength("", "F(AAAB" + last + ")", 200);
            dueLength("", "F(AAAA" + last + ")", -1);
        }
    }

    // An argument of a call in a body, whatever the ending of the call.
    private static void argumentsOfCallsThatAreNotExpanded() {
        for (String call : new String[] {"U(?a)", "E(?a)", "F(?a)", "H(?U)", "U(,b,?E)"}) {
            Book book = longBook("");
            Checks.define(book, "E=" + call);
            dueResultLength(book, "E(AAAB)", 1);
            dueResultLength(book, "E(AAAA)", -1);
        }
    }

    // An argument, not all of them together.
    private static void eachArgumentAlone() {
        Book book = longBook("");
        dueResultLength(book, "U(AAAA,AAAA,AAAA,AAAA,AAAA,AAAA)", 1);
        Checks.due("all of them", 1200, book.trace(24, 5));
        dueResultLength(book, "F(,AAAA,AAAA,AAAA,AAAA,AAAA)", 0);
        Checks.due("all of them", 1000, book.trace(20, 5));
        dueResultLength(book, "U(AAAA,AAAA,AAAA,AAAA,AAAA,AAAAa)", -1);
        dueResultLength(book, "F(AAAA,AAAA)", 200);
    }

    private static void dueLength(String last, String text, int want) {
        dueResultLength(longBook(last), text, want);
    }

    private static void dueResultLength(Book book, String text, int want) {
        int failures = book.count(4);
        Checks.type(book, text);
        Checks.due("length of " + text, want, book.expand());
        Checks.due("failures at " + text, failures + (want < 0 ? 1 : 0), book.count(4));
        if (want > 0) {
            Checks.due("the last sign of " + text, true, book.sign(want - 1) > 0);
            Checks.due("behind it", -1, book.sign(want));
        }
    }

    // "At most the first 60 calls are listed."
    private static void sixtyCallsInTheTrace() {
        dueListed("A", 58, 'A');
        dueListed("AV", 59, 'V');
        dueListed("AVW", 60, 'W');
        dueListed("AVWX", 60, 'W');
        dueListed("AAA", 60, 'U');
        dueListed("B", 59, 'B');
        dueListed("BX", 60, 'X');
        dueListed("X(B)", 60, 'X');
        dueListed("VX(B)", 60, 'B');
    }

    private static void dueListed(String text, int listed, char last) {
        Book book = Checks.book("A=" + "U".repeat(57), "B=A");
        Checks.type(book, text);
        book.expand();
        Checks.due("listed of " + text, listed, book.result(7));
        Checks.due("the last one that is listed", last - 'A', book.trace(listed - 1, 0));
        for (int what = 0; what <= 5; what++) {
            Checks.due("behind it", -1, book.trace(listed, what));
            Checks.due("at the 61st", -1, book.trace(60, what));
        }
    }

    // "NONE if the expansion fails (then result and trace stay as they are)"
    private static void failuresChangeTheirCountAlone() {
        for (String failing : new String[] {"AAAAa", "U(AAAAa)", "YYYYYYZ", "H(YYYYYYZ)"}) {
            Book tried = wellExpanded();
            Checks.type(tried, failing);
            Checks.due("expand " + failing, -1, tried.expand());
            Checks.due("those that did not fail", 1, tried.count(3));
            Checks.due("those that failed", 1, tried.count(4));
            for (int what = 0; what <= 7; what++) {
                Checks.due("result " + what, wellExpanded().result(what), tried.result(what));
            }
            Checks.due("the result", Checks.resultOf(wellExpanded()), Checks.resultOf(tried));
            Checks.due("the trace", Checks.traceOf(wellExpanded()), Checks.traceOf(tried));
            Checks.due("the buffer", failing.length(), tried.count(7));
            tried.undo();
            Checks.due("without the failure", 0, tried.count(4));
            Checks.type(tried, "x");
            Checks.due("an expansion that does not fail", 1, tried.expand());
            Checks.due("its trace", 0, tried.result(7));
        }
    }

    private static Book wellExpanded() {
        Book book = longBook("");
        Checks.define(book, "Y=ZZZZZZZZZ");
        Checks.define(book, "Z=");
        book.set(8);
        Checks.expand(book, "F(x?)UH");
        return book;
    }

    // "0 if nothing was expanded yet"; "NONE if the result is not so long", "if there are not so many"
    private static void nothingExpandedYet() {
        Book book = new Book();
        dueNothing(book);
        book.expand();
        dueNothing(book);
        Book failed = longBook("");
        Checks.type(failed, "AAAAA");
        failed.expand();
        dueNothing(failed);
        Book undone = longBook("");
        Checks.expand(undone, "F(x)U?");
        undone.undo();
        dueNothing(undone);
        Book wentBack = longBook("");
        wentBack.keep(0);
        Checks.expand(wentBack, "F(x)U?");
        wentBack.goBack(0);
        dueNothing(wentBack);
    }

    private static void dueNothing(Book book) {
        for (int what = 0; what <= 7; what++) {
            Checks.due("result " + what, 0, book.result(what));
        }
        for (int what = 0; what <= 5; what++) {
            Checks.due("trace " + what, -1, book.trace(0, what));
        }
        Checks.due("sign", -1, book.sign(0));
    }

    // "6 the greatest depth of these (0 without any)"
    private static void noCallsExpanded() {
        Book book = Checks.book("A=a");
        Checks.expand(book, "A");
        Checks.due("the greatest depth", 1, book.result(6));
        Checks.expand(book, "xU(V)");
        Checks.due("without expanded calls", 0, book.result(6));
        Checks.due("their number", 0, book.result(5));
        Checks.due("but with calls", 2, book.result(7));
        Checks.expand(book, "x");
        Checks.due("without calls", 0, book.result(6));
    }

    private static void theTextIsExpandedAsTheBookIsNow() {
        Book book = Checks.book("A=a");
        Checks.type(book, "AB");
        Checks.due("first", 2, book.expand());
        Checks.due("it is", "a$", Checks.resultOf(book));
        book.exchange(0, 1);
        Checks.due("the result stays", "a$", Checks.resultOf(book));
        Checks.due("once more, the buffer stays", 2, book.expand());
        Checks.due("it is", "$a", Checks.resultOf(book));
        Checks.due("two did not fail", 2, book.count(3));
    }
}
