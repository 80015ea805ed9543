/**
 * An AbbreviationBook that stops a test which asks it for more than the document promises: what an
 * object answers behind its 512th call is free.
 */
final class Book {
    static final int NONE = AbbreviationBook.NONE;
    private static final int MOST_CALLS = 512;

    private final AbbreviationBook book = new AbbreviationBook();
    private int calls = 0;

    private AbbreviationBook called() {
        calls++;
        if (calls > MOST_CALLS) {
            throw new AssertionError("a test makes more than 512 calls of one object");
        }
        return book;
    }

    int define(int letter) {
        return called().define(letter);
    }

    int remove(int letter) {
        return called().remove(letter);
    }

    int exchange(int letter, int other) {
        return called().exchange(letter, other);
    }

    int set(int depth) {
        return called().set(depth);
    }

    int expand() {
        return called().expand();
    }

    int append(int code) {
        return called().append(code);
    }

    int clearBuffer() {
        return called().clearBuffer();
    }

    int firstError() {
        return called().firstError();
    }

    int load(int letter) {
        return called().load(letter);
    }

    int undo() {
        return called().undo();
    }

    int keep(int slot) {
        return called().keep(slot);
    }

    int goBack(int slot) {
        return called().goBack(slot);
    }

    int body(int letter, int what) {
        return called().body(letter, what);
    }

    int uses(int letter, int what) {
        return called().uses(letter, what);
    }

    int rings() {
        return called().rings();
    }

    int missing() {
        return called().missing();
    }

    int chain(int letter) {
        return called().chain(letter);
    }

    int ifDefined(int letter) {
        return called().ifDefined(letter);
    }

    int sign(int index) {
        return called().sign(index);
    }

    int result(int what) {
        return called().result(what);
    }

    int trace(int index, int what) {
        return called().trace(index, what);
    }

    int lengthOf(int letter, int length) {
        return called().lengthOf(letter, length);
    }

    int count(int what) {
        return called().count(what);
    }

    double meanHoles() {
        return called().meanHoles();
    }
}
