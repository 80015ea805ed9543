import java.util.function.Supplier;

/** Promises 11 to 13: undo, keep, goBack. */
public final class HistoryTest {
    public static void main(String[] args) {
        undoRestoresEachPartOfTheState();
        sixStatesAreSaved();
        savedStatesGoRound();
        undoIsNotUndoable();
        keepTakesASnapshot();
        keepRefuses();
        goBackRestores();
        goBackIsUndoable();
        goBackRefuses();
        theSlotsAreNoPartOfTheState();
        Checks.end();
    }

    private static void undoRestoresEachPartOfTheState() {
        Book book = Checks.book("A=a?");
        Checks.expand(book, "A(b)");
        String counts = Checks.countsOf(book);
        Checks.type(book, "xA(cd)B");
        book.set(2);
        book.expand();
        book.remove(0);
        book.exchange(0, 1);
        Checks.due("undo of exchange", 5, book.undo());
        Checks.due("undo of remove", 4, book.undo());
        Checks.due("A is back", 2, book.body(0, 0));
        Checks.due("undo of expand", 3, book.undo());
        Checks.due("the result", "ab", Checks.resultOf(book));
        Checks.due("the trace", "A0,0,1,2,1", Checks.traceOf(book));
        Checks.due("the depth of it", 1, book.result(6));
        Checks.due("undo of set", 2, book.undo());
        book.clearBuffer();
        for (char sign : "A(b)".toCharArray()) {
            book.append(sign);
        }
        Checks.due("the counts", counts, Checks.countsOf(book));
        Checks.due("undo of the first expand", 1, book.undo());
        Checks.due("no result", 0, book.result(0));
        Checks.due("nothing expanded yet", 0, book.result(5));
        Checks.due("undo of define", 0, book.undo());
        Checks.due("none is defined", 0, book.count(0));
        Checks.dueThrow("no state is left", IllegalStateException.class, book::undo);
        Checks.due("the buffer is not restored", 4, book.count(7));
    }

    private static void sixStatesAreSaved() {
        Book book = new Book();
        for (int depth = 1; depth <= 10; depth++) {
            book.set(depth);
            Checks.due("saved states", depth < 6 ? depth : 6, book.count(6));
        }
        for (int left = 5; left >= 0; left--) {
            Checks.due("states that are left", left, book.undo());
            Checks.due("the setting", left + 4, book.count(2));
            Checks.due("they are counted", left, book.count(6));
        }
        Checks.dueThrow("no state is left", IllegalStateException.class, book::undo);
        Checks.due("the setting stays", 4, book.count(2));
    }

    private static void savedStatesGoRound() {
        Book book = new Book();
        for (int round = 0; round < 5; round++) {
            for (int depth = 1; depth <= 7; depth++) {
                book.set(depth);
            }
            for (int depth = 6; depth >= 3; depth--) {
                book.undo();
                Checks.due("the setting", depth, book.count(2));
            }
        }
        Checks.due("states that are left", 2, book.count(6));
    }

    private static void undoIsNotUndoable() {
        Book book = new Book();
        book.set(1);
        book.set(2);
        book.undo();
        book.set(3);
        book.undo();
        Checks.due("what set(3) found", 1, book.count(2));
        book.undo();
        Checks.due("what set(1) found", 8, book.count(2));
        Checks.refuses("undo without a saved state", IllegalStateException.class, () -> {
            Book empty = new Book();
            Checks.type(empty, "ab");
            empty.keep(1);
            return empty;
        }, Book::undo);
    }

    private static void keepTakesASnapshot() {
        Book book = new Book();
        Checks.due("keep without definitions", 0, book.keep(0));
        Checks.define(book, "A=a");
        Checks.define(book, "Z=z");
        Checks.due("keep with two", 2, book.keep(1));
        Checks.due("keep saves no state", 2, book.count(6));
        Checks.define(book, "B=b");
        Checks.due("keep replaces", 3, book.keep(0));
        book.remove(0);
        book.goBack(0);
        Checks.due("the newer one", Checks.set("ABZ"), book.count(1));
        book.goBack(1);
        Checks.due("the other slot", Checks.set("AZ"), book.count(1));
    }

    private static void keepRefuses() {
        for (int slot : new int[] {-1, 2, Integer.MIN_VALUE, Integer.MAX_VALUE}) {
            Checks.refuses("keep(" + slot + ")", IllegalArgumentException.class,
                    kept(), book -> book.keep(slot));
        }
    }

    private static void goBackRestores() {
        Book book = Checks.book("A=a?", "B=b");
        book.set(5);
        Checks.expand(book, "A(B)");
        book.keep(1);
        String counts = Checks.countsOf(book);
        book.set(1);
        book.remove(1);
        Checks.expand(book, "BBBB");
        Checks.due("goBack", 2, book.goBack(1));
        Checks.due("the result", "ab", Checks.resultOf(book));
        Checks.due("the trace", "B0,0,0,1,0 A0,0,1,2,1", Checks.traceOf(book));
        Checks.due("the counts", counts.replace(" 4 4", " 6 4"), Checks.countsOf(book));
        Checks.define(book, "C=c");
        Checks.define(book, "A=xyz");
        Checks.due("the snapshot stays in its slot", 2, book.goBack(1));
        Checks.due("and as it was", 2, book.body(0, 0));
        Checks.due("its set", Checks.set("AB"), book.count(1));
    }

    private static void goBackIsUndoable() {
        Book book = Checks.book("A=a");
        book.keep(0);
        book.set(3);
        Checks.due("goBack", 1, book.goBack(0));
        Checks.due("goBack, nothing changes", 1, book.goBack(0));
        Checks.due("saved", 4, book.count(6));
        Checks.due("undo", 3, book.undo());
        Checks.due("the setting of the snapshot", 8, book.count(2));
        Checks.due("undo once more", 2, book.undo());
        Checks.due("the setting before goBack", 3, book.count(2));
    }

    private static void goBackRefuses() {
        for (int slot : new int[] {-1, 2, Integer.MIN_VALUE, Integer.MAX_VALUE}) {
            Checks.refuses("goBack(" + slot + ")", IllegalArgumentException.class,
                    kept(), book -> book.goBack(slot));
        }
        Checks.refuses("goBack to an empty slot", IllegalStateException.class,
                kept(), book -> book.goBack(1));
        Checks.refuses("goBack to an empty slot", IllegalStateException.class,
                () -> Checks.book("A=a"), book -> book.goBack(0));
    }

    private static void theSlotsAreNoPartOfTheState() {
        Book book = Checks.book("A=a");
        book.keep(0);
        book.undo();
        Checks.due("none is defined", 0, book.count(0));
        Checks.due("the snapshot is still there", 1, book.goBack(0));
    }

    /** A book with a snapshot in slot 0 alone. */
    private static Supplier<Book> kept() {
        return () -> {
            Book book = Checks.book("A=a?", "B=b");
            book.keep(0);
            Checks.expand(book, "A(B)");
            return book;
        };
    }
}
