import java.util.LinkedHashMap;
import java.util.Map;
import java.util.function.Consumer;

/** The boundary sentences of "Undo and snapshots", and of promises 11 to 13. */
public final class HistoryBoundsTest {
    private static final String TEXT = "A(c)";

    public static void main(String[] args) {
        eachUndoableCallSavesOneState();
        eachUndoableCallDropsTheOldest();
        otherCallsSaveNone();
        sixStatesAndOneMore();
        undoTakesTheLastOne();
        undoEndsAtNone();
        slotsAreEmptyAtFirst();
        aSnapshotReplacesTheOneBefore();
        aSnapshotHoldsTheWholeState();
        aSnapshotStaysInItsSlot();
        theBufferIsNoPartOfTheState();
        keepAndGoBackCountTheDefined();
        Checks.end();
    }

    // "Each method that is marked "Undoable" saves the state from before the call if it does not
    // throw an exception, even if nothing changes."
    private static Map<String, Consumer<Book>> undoableCalls() {
        Map<String, Consumer<Book>> calls = new LinkedHashMap<>();
        calls.put("define of another one", book -> book.define(2));
        calls.put("define in place of one", book -> book.define(0));
        calls.put("define of the same", book -> {
            Checks.type(book, "b");
            book.define(1);
        });
        calls.put("remove", book -> book.remove(1));
        calls.put("exchange of two", book -> book.exchange(0, 1));
        calls.put("exchange of one", book -> book.exchange(5, 1));
        calls.put("exchange of none", book -> book.exchange(5, 6));
        calls.put("exchange of the same", book -> book.exchange(0, 0));
        calls.put("set to another depth", book -> book.set(12));
        calls.put("set to the same depth", book -> book.set(5));
        calls.put("expand", Book::expand);
        calls.put("expand of the same text", book -> {
            Checks.type(book, "A(B)");
            book.expand();
        });
        calls.put("expand that fails", book -> {
            Checks.type(book, "LLLLa");
            book.expand();
        });
        calls.put("goBack", book -> book.goBack(1));
        calls.put("goBack to the same", book -> book.goBack(0));
        return calls;
    }

    /** Five states are saved: those before two definitions, an expansion, a set and a definition. */
    private static Book five() {
        Book book = Checks.book("A=a?B", "B=b");
        book.keep(1);
        Checks.expand(book, "A(B)");
        book.set(5);
        Checks.define(book, "L=" + "l".repeat(50));
        book.keep(0);
        Checks.type(book, TEXT);
        return book;
    }

    private static Book six() {
        Book book = five();
        book.set(6);
        book.set(5);
        return book;
    }

    private static void eachUndoableCallSavesOneState() {
        String before = Checks.factsOf(five());
        for (Map.Entry<String, Consumer<Book>> call : undoableCalls().entrySet()) {
            Book book = five();
            call.getValue().accept(book);
            Checks.due("saved by " + call.getKey(), 6, book.count(6));
            Checks.due("left by undo of " + call.getKey(), 5, book.undo());
            Checks.type(book, TEXT);
            Checks.due("undo of " + call.getKey(), before, Checks.factsOf(book));
        }
    }

    // "At most 6 states are saved; when one more is saved, the oldest one is dropped."
    private static void eachUndoableCallDropsTheOldest() {
        for (Map.Entry<String, Consumer<Book>> call : undoableCalls().entrySet()) {
            Book full = six();
            Book book = six();
            Checks.due("saved before " + call.getKey(), 6, book.count(6));
            call.getValue().accept(book);
            Checks.due("saved by " + call.getKey(), 6, book.count(6));
            Checks.due("left by undo of " + call.getKey(), 5, book.undo());
            Checks.due("undo of " + call.getKey(), stateOf(full), stateOf(book));
            for (int left = 4; left >= 0; left--) {
                full.undo();
                Checks.due("left by undo", left, book.undo());
                Checks.due("the state before", stateOf(full), stateOf(book));
            }
            Checks.dueThrow("the oldest one is dropped", IllegalStateException.class, book::undo);
            Checks.due("one is left in the other", 0, full.undo());
        }
    }

    /** The parts of the state: nothing of the buffer, the saved states and the slots. */
    private static String stateOf(Book book) {
        StringBuilder facts = new StringBuilder();
        for (int what = 1; what <= 5; what++) {
            facts.append(book.count(what)).append(' ');
        }
        return facts.append(Checks.resultOf(book)).append(' ').append(Checks.traceOf(book)).toString();
    }

    private static void otherCallsSaveNone() {
        for (Book book : new Book[] {new Book(), five(), six()}) {
            int saved = book.count(6);
            book.append('d');
            book.firstError();
            book.clearBuffer();
            book.keep(0);
            book.keep(1);
            book.body(0, 0);
            book.uses(0, 1);
            book.rings();
            book.missing();
            book.chain(0);
            book.ifDefined(0);
            book.sign(0);
            book.result(0);
            book.trace(0, 0);
            book.lengthOf(0, 0);
            book.count(0);
            book.meanHoles();
            Checks.due("none is saved", saved, book.count(6));
        }
        Book loaded = six();
        loaded.load(0);
        Checks.due("none is saved by load", 6, loaded.count(6));
        Checks.due("nor dropped", 5, loaded.undo());
        Checks.due("undo saves none", 5, loaded.count(6));
    }

    private static void sixStatesAndOneMore() {
        for (int calls = 1; calls <= 13; calls++) {
            Book book = new Book();
            for (int i = 0; i < calls; i++) {
                book.set(i % 12 + 1);
            }
            int saved = Math.min(6, calls);
            Checks.due("saved by " + calls, saved, book.count(6));
            for (int i = 1; i <= saved; i++) {
                Checks.due("left", saved - i, book.undo());
                int before = calls - i;
                Checks.due("the depth", before == 0 ? 8 : (before - 1) % 12 + 1, book.count(2));
            }
            Checks.dueThrow("no more", IllegalStateException.class, book::undo);
        }
    }

    // "Restores the state that was saved last, and removes it from the saved states."
    private static void undoTakesTheLastOne() {
        for (int back = 0; back <= 6; back++) {
            Book book = new Book();
            for (int depth = 1; depth <= 7; depth++) {
                book.set(depth);
            }
            for (int i = 0; i < back; i++) {
                book.undo();
            }
            Checks.due("the depth", 7 - back, book.count(2));
            book.set(10);
            book.set(11);
            Checks.due("saved", Math.min(6, 8 - back), book.count(6));
            Checks.due("left", Math.min(6, 8 - back) - 1, book.undo());
            Checks.due("the depth", 10, book.count(2));
            book.undo();
            Checks.due("the depth before", 7 - back, book.count(2));
        }
    }

    // "if no state is saved"
    private static void undoEndsAtNone() {
        Checks.refuses("undo of a new book", IllegalStateException.class, Book::new, Book::undo);
        Checks.refuses("undo behind the last one", IllegalStateException.class, () -> {
            Book book = five();
            for (int left = 4; left >= 0; left--) {
                Checks.due("left", left, book.undo());
            }
            return book;
        }, Book::undo);
        Book book = Checks.book("A=a");
        Checks.due("the last one", 0, book.undo());
        Checks.dueThrow("no more", IllegalStateException.class, book::undo);
        book.set(3);
        Checks.due("then one is saved", 1, book.count(6));
        Checks.due("and restored", 0, book.undo());
        Checks.due("the depth", 8, book.count(2));
    }

    // "There are two snapshot slots, which are empty at first."
    private static void slotsAreEmptyAtFirst() {
        for (int slot = 0; slot <= 1; slot++) {
            int place = slot;
            Checks.refuses("goBack(" + slot + ") at first", IllegalStateException.class, Book::new,
                    book -> book.goBack(place));
            Checks.refuses("goBack(" + slot + "), the other one is full", IllegalStateException.class, () -> {
                Book book = Checks.book("A=a", "B=b", "C=c", "D=d", "E=e", "F=f", "G=g");
                book.keep(1 - place);
                return book;
            }, book -> book.goBack(place));
            Book book = new Book();
            Checks.due("keep", 0, book.keep(slot));
            Checks.due("a snapshot without definitions", 0, book.goBack(slot));
            Checks.dueThrow("the other one stays empty", IllegalStateException.class,
                    () -> book.goBack(1 - place));
        }
    }

    // "Takes a snapshot of the state, which replaces the one in the slot."
    private static void aSnapshotReplacesTheOneBefore() {
        for (int slot = 0; slot <= 1; slot++) {
            Book book = new Book();
            book.set(1);
            book.keep(0);
            book.keep(1);
            book.set(2);
            book.keep(slot);
            book.set(3);
            book.goBack(slot);
            Checks.due("the newer one", 2, book.count(2));
            book.goBack(1 - slot);
            Checks.due("the older one is in the other slot", 1, book.count(2));
            book.goBack(slot);
            Checks.due("the newer one again", 2, book.count(2));
        }
    }

    // "The state consists of the definitions, the setting, the result, the trace and what is counted so far."
    private static void aSnapshotHoldsTheWholeState() {
        Book book = five();
        Checks.type(book, "LLLLa");
        book.expand();
        book.keep(0);
        String want = stateOf(book);
        book.remove(0);
        book.exchange(1, 25);
        book.set(1);
        Checks.expand(book, "xyzUV");
        Checks.type(book, "LLLLa");
        book.expand();
        book.goBack(0);
        Checks.due("the state", want, stateOf(book));
        Checks.due("A is as it was", 3, book.body(0, 0));
        Checks.due("B is as it was", 1, book.body(1, 0));
        Checks.due("Z is not defined", -1, book.body(25, 0));
    }

    // "Restores a snapshot, which stays in its slot."
    private static void aSnapshotStaysInItsSlot() {
        Book book = five();
        String want = stateOf(book);
        for (int i = 0; i < 3; i++) {
            Checks.define(book, "A=zzz");
            book.set(1);
            book.remove(1);
            book.expand();
            Checks.due("goBack", 3, book.goBack(0));
            Checks.due("the state", want, stateOf(book));
        }
        // Undo takes nothing out of the slots.
        while (book.count(6) > 0) {
            book.undo();
        }
        Checks.due("the snapshot is still there", 3, book.goBack(0));
        Checks.due("the state", want, stateOf(book));
        Checks.due("one is saved", 1, book.count(6));
    }

    private static void theBufferIsNoPartOfTheState() {
        Book book = Checks.book("A=a?");
        book.keep(0);
        Checks.type(book, "A(b)");
        book.set(3);
        book.append('c');
        book.undo();
        Checks.due("the buffer after undo", 5, book.count(7));
        book.append('d');
        book.goBack(0);
        Checks.due("the buffer after goBack", 6, book.count(7));
        Checks.due("its text", 4, book.expand());
        Checks.due("its result", "abcd", Checks.resultOf(book));
        book.define(1);
        book.undo();
        Checks.due("the buffer after undo of define", 0, book.count(7));
        book.clearBuffer();
        book.goBack(0);
        Checks.due("the buffer stays empty", 0, book.count(7));
    }

    // "Returns the number of abbreviations that are defined (after the call)."
    private static void keepAndGoBackCountTheDefined() {
        Book book = new Book();
        Checks.due("none", 0, book.keep(0));
        for (int letter = 0; letter < 26; letter++) {
            book.define(letter);
            Checks.due("keep", letter + 1, book.keep(1));
        }
        Checks.due("none again", 0, book.goBack(0));
        Checks.due("all of them", 26, book.goBack(1));
        book.remove(0);
        Checks.due("all but one", 25, book.keep(0));
        Checks.due("all of them", 26, book.goBack(1));
        Checks.due("all but one", 25, book.goBack(0));
    }
}
