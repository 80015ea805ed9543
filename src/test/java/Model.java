import java.util.ArrayList;
import java.util.List;

/**
 * The document once more, written for plainness alone: texts as trees, results as strings, states as
 * copies. ModelTest compares the book with it.
 */
final class Model {
    /** An expansion that fails. */
    private static final class Failure extends RuntimeException {
        private static final long serialVersionUID = 1;
    }

    /** A sign of a text; arguments is null unless it is a call. */
    private static final class Sign {
        final char code;
        final int hole;
        List<List<Sign>> arguments = null;

        Sign(char code, int hole) {
            this.code = code;
            this.hole = hole;
        }

        boolean isCall() {
            return arguments != null;
        }
    }

    private static final class State {
        String[] bodies = new String[26];
        int depth = 8;
        String result = "";
        List<int[]> trace = new ArrayList<>();
        int expanded = 0;
        int deepest = 0;
        int successes = 0;
        int failures = 0;

        State copy() {
            State copy = new State();
            copy.bodies = bodies.clone();
            copy.depth = depth;
            copy.result = result;
            copy.trace = trace;
            copy.expanded = expanded;
            copy.deepest = deepest;
            copy.successes = successes;
            copy.failures = failures;
            return copy;
        }
    }

    private State state = new State();
    private String buffer = "";
    private final List<State> saved = new ArrayList<>();
    private final State[] slots = new State[2];

    // What one expansion notes.
    private List<int[]> trace;
    private int expanded;
    private int deepest;

    // What one reading notes.
    private int at;
    private int holes;

    int define(int letter) {
        requireLetter(letter);
        requireComplete();
        save();
        state.bodies[letter] = buffer;
        buffer = "";
        return occurrences(state.bodies[letter], "?");
    }

    int remove(int letter) {
        requireLetter(letter);
        requireDefined(letter);
        save();
        state.bodies[letter] = null;
        return definedLetters().size();
    }

    int exchange(int letter, int other) {
        requireLetter(letter);
        requireLetter(other);
        save();
        String first = state.bodies[letter];
        state.bodies[letter] = state.bodies[other];
        state.bodies[other] = first;
        return (state.bodies[letter] != null ? 1 : 0) + (state.bodies[other] != null ? 1 : 0);
    }

    int set(int depth) {
        require(depth >= 1 && depth <= 12);
        save();
        int previous = state.depth;
        state.depth = depth;
        return previous;
    }

    int expand() {
        requireComplete();
        save();
        startNotes();
        try {
            String result = bounded(written(parsed(buffer), null, new ArrayList<>()));
            state.result = result;
            state.trace = trace;
            state.expanded = expanded;
            state.deepest = deepest;
            state.successes++;
            return result.length();
        } catch (Failure e) {
            state.failures++;
            return -1;
        }
    }

    int append(int code) {
        require(code >= 33 && code <= 126);
        if (buffer.length() == 60) {
            throw new IllegalStateException();
        }
        buffer += (char) code;
        return buffer.length();
    }

    int clearBuffer() {
        int length = buffer.length();
        buffer = "";
        return length;
    }

    /** The longest beginning that can still become a text: no error is in it. */
    int firstError() {
        int length = 0;
        while (length < buffer.length() && canBecomeText(buffer.substring(0, length + 1))) {
            length++;
        }
        return length;
    }

    int load(int letter) {
        requireLetter(letter);
        requireDefined(letter);
        buffer = state.bodies[letter];
        return buffer.length();
    }

    int undo() {
        if (saved.isEmpty()) {
            throw new IllegalStateException();
        }
        state = saved.remove(saved.size() - 1);
        return saved.size();
    }

    int keep(int slot) {
        require(slot == 0 || slot == 1);
        slots[slot] = state.copy();
        return definedLetters().size();
    }

    int goBack(int slot) {
        require(slot == 0 || slot == 1);
        if (slots[slot] == null) {
            throw new IllegalStateException();
        }
        save();
        state = slots[slot].copy();
        return definedLetters().size();
    }

    int body(int letter, int what) {
        requireLetter(letter);
        require(what >= 0 && what <= 5);
        String body = state.bodies[letter];
        if (body == null) {
            return -1;
        }
        switch (what) {
            case 0: return body.length();
            case 1: return occurrences(body, "?");
            case 2: return occurrences(body, "ABCDEFGHIJKLMNOPQRSTUVWXYZ");
            case 3: return mostArguments(parsed(body));
            case 4: return nesting(parsed(body));
            default: return occurrences(body, "abcdefghijklmnopqrstuvwxyz_");
        }
    }

    int uses(int letter, int what) {
        requireLetter(letter);
        require(what >= 0 && what <= 3);
        int set = 0;
        for (int i = 0; i < 26; i++) {
            boolean isIn = what == 0 ? calls(letter, i) : what == 1 ? comesTo(letter, i)
                    : what == 2 ? calls(i, letter) : comesTo(i, letter);
            set |= isIn ? 1 << i : 0;
        }
        return set;
    }

    int rings() {
        int set = 0;
        for (int i = 0; i < 26; i++) {
            set |= comesTo(i, i) ? 1 << i : 0;
        }
        return set;
    }

    int missing() {
        int set = 0;
        for (int i = 0; i < 26; i++) {
            for (int j = 0; j < 26; j++) {
                set |= calls(i, j) && state.bodies[j] == null ? 1 << j : 0;
            }
        }
        return set;
    }

    int chain(int letter) {
        requireLetter(letter);
        return longest(letter, new int[26]);
    }

    int ifDefined(int letter) {
        requireLetter(letter);
        requireComplete();
        String before = state.bodies[letter];
        state.bodies[letter] = buffer;
        int rings = rings();
        state.bodies[letter] = before;
        return rings;
    }

    int sign(int index) {
        require(index >= 0);
        return index < state.result.length() ? state.result.charAt(index) : -1;
    }

    int result(int what) {
        require(what >= 0 && what <= 7);
        switch (what) {
            case 0: return state.result.length();
            case 1: return occurrences(state.result, "#");
            case 2: return occurrences(state.result, "%");
            case 3: return occurrences(state.result, "$");
            case 4: return occurrences(state.result, "?");
            case 5: return state.expanded;
            case 6: return state.deepest;
            default: return Math.min(60, state.trace.size());
        }
    }

    int trace(int index, int what) {
        require(index >= 0 && what >= 0 && what <= 5);
        return index < 60 && index < state.trace.size() ? state.trace.get(index)[what] : -1;
    }

    int lengthOf(int letter, int length) {
        requireLetter(letter);
        require(length >= 0 && length <= 20);
        if (state.bodies[letter] == null) {
            return -1;
        }
        startNotes();
        List<String> arguments = new ArrayList<>();
        for (int i = occurrences(state.bodies[letter], "?"); i > 0; i--) {
            arguments.add("x".repeat(length));
        }
        try {
            return bounded(writtenForCall(letter, arguments, new ArrayList<>())).length();
        } catch (Failure e) {
            return -1;
        }
    }

    int count(int what) {
        require(what >= 0 && what <= 7);
        int set = 0;
        int calls = 0;
        for (int letter : definedLetters()) {
            set |= 1 << letter;
            calls += body(letter, 2);
        }
        int[] numbers = {definedLetters().size(), set, state.depth, state.successes, state.failures, calls,
            saved.size(), buffer.length()};
        return numbers[what];
    }

    double meanHoles() {
        double sum = 0;
        for (int letter : definedLetters()) {
            sum += body(letter, 1);
        }
        return definedLetters().isEmpty() ? 0.0 : sum / definedLetters().size();
    }

    private static void require(boolean isRight) {
        if (!isRight) {
            throw new IllegalArgumentException();
        }
    }

    private static void requireLetter(int letter) {
        if (letter < 0 || letter > 25) {
            throw new IndexOutOfBoundsException();
        }
    }

    private void requireDefined(int letter) {
        if (state.bodies[letter] == null) {
            throw new IllegalStateException();
        }
    }

    private void requireComplete() {
        require(isText(buffer));
    }

    private void save() {
        saved.add(state.copy());
        if (saved.size() > 6) {
            saved.remove(0);
        }
    }

    private List<Integer> definedLetters() {
        List<Integer> letters = new ArrayList<>();
        for (int i = 0; i < 26; i++) {
            if (state.bodies[i] != null) {
                letters.add(i);
            }
        }
        return letters;
    }

    private static int occurrences(String text, String signs) {
        return (int) text.chars().filter(c -> signs.indexOf(c) >= 0).count();
    }

    // ---- texts

    private List<Sign> parsed(String text) {
        at = 0;
        holes = 0;
        List<Sign> signs = parsedFrom(text);
        if (at < text.length()) {
            throw new IllegalArgumentException();
        }
        return signs;
    }

    private boolean isText(String text) {
        try {
            parsed(text);
            return true;
        } catch (IllegalArgumentException e) {
            return false;
        }
    }

    /** A beginning is good if it is a text as soon as the calls that are open in it are closed. */
    private boolean canBecomeText(String beginning) {
        return isText(beginning + ")".repeat(
                Math.max(0, occurrences(beginning, "(") - occurrences(beginning, ")"))));
    }

    private List<Sign> parsedFrom(String text) {
        List<Sign> signs = new ArrayList<>();
        while (at < text.length() && ",)".indexOf(text.charAt(at)) < 0) {
            char code = text.charAt(at);
            at++;
            Sign sign = new Sign(code, code == '?' ? holes++ : -1);
            if (code >= 'A' && code <= 'Z') {
                sign.arguments = parsedArguments(text);
            } else if ("abcdefghijklmnopqrstuvwxyz_?".indexOf(code) < 0) {
                throw new IllegalArgumentException();
            }
            signs.add(sign);
        }
        return signs;
    }

    private List<List<Sign>> parsedArguments(String text) {
        List<List<Sign>> arguments = new ArrayList<>();
        if (at == text.length() || text.charAt(at) != '(') {
            return arguments;
        }
        do {
            at++;
            arguments.add(parsedFrom(text));
        } while (at < text.length() && text.charAt(at) == ',');
        if (at == text.length() || arguments.size() > 6) {
            throw new IllegalArgumentException();
        }
        at++;
        return arguments;
    }

    private static int mostArguments(List<Sign> text) {
        int most = 0;
        for (Sign sign : text) {
            if (sign.isCall()) {
                most = Math.max(most, sign.arguments.size());
                for (List<Sign> argument : sign.arguments) {
                    most = Math.max(most, mostArguments(argument));
                }
            }
        }
        return most;
    }

    private static int nesting(List<Sign> text) {
        int most = 0;
        for (Sign sign : text) {
            if (sign.isCall()) {
                int inside = 0;
                for (List<Sign> argument : sign.arguments) {
                    inside = Math.max(inside, nesting(argument));
                }
                most = Math.max(most, 1 + inside);
            }
        }
        return most;
    }

    // ---- who calls whom

    private boolean calls(int letter, int other) {
        return state.bodies[letter] != null && state.bodies[letter].indexOf('A' + other) >= 0;
    }

    private boolean comesTo(int letter, int other) {
        List<Integer> found = new ArrayList<>();
        found.add(letter);
        for (int i = 0; i < found.size(); i++) {
            for (int next = 0; next < 26; next++) {
                if (calls(found.get(i), next)) {
                    if (next == other) {
                        return true;
                    }
                    if (!found.contains(next)) {
                        found.add(next);
                    }
                }
            }
        }
        return false;
    }

    /** known: 0 not known yet, else the length and 1. */
    private int longest(int letter, int[] known) {
        if (state.bodies[letter] == null) {
            return 0;
        }
        if (comesTo(letter, letter)) {
            return -1;
        }
        if (known[letter] != 0) {
            return known[letter] - 1;
        }
        int most = 0;
        for (int next = 0; next < 26; next++) {
            if (calls(letter, next)) {
                int length = longest(next, known);
                if (length < 0) {
                    return -1;
                }
                most = Math.max(most, length);
            }
        }
        known[letter] = most + 2;
        return most + 1;
    }

    // ---- expansion

    private void startNotes() {
        trace = new ArrayList<>();
        expanded = 0;
        deepest = 0;
    }

    private static String bounded(String text) {
        if (text.length() > 200) {
            throw new Failure();
        }
        return text;
    }

    /** The arguments are null outside of bodies; open holds the abbreviations whose bodies are open. */
    private String written(List<Sign> text, List<String> arguments, List<Integer> open) {
        StringBuilder written = new StringBuilder();
        for (Sign sign : text) {
            if (sign.isCall()) {
                List<String> given = new ArrayList<>();
                for (List<Sign> argument : sign.arguments) {
                    given.add(bounded(written(argument, arguments, open)));
                }
                written.append(writtenForCall(sign.code - 'A', given, open));
            } else if (sign.code != '?' || arguments == null) {
                written.append(sign.code);
            } else if (sign.hole < arguments.size()) {
                written.append(arguments.get(sign.hole));
            }
        }
        return written.toString();
    }

    private String writtenForCall(int letter, List<String> arguments, List<Integer> open) {
        int ending = state.bodies[letter] == null ? 1 : open.contains(letter) ? 2
                : open.size() >= state.depth ? 3 : 0;
        String written = "?$#%".substring(ending, ending + 1);
        if (ending == 0) {
            expanded++;
            if (expanded > 60) {
                throw new Failure();
            }
            List<Integer> inside = new ArrayList<>(open);
            inside.add(letter);
            deepest = Math.max(deepest, inside.size());
            written = written(parsed(state.bodies[letter]), arguments, inside);
        }
        trace.add(new int[] {letter, ending, open.size(), arguments.size(), written.length(),
            String.join("", arguments).length()});
        return written;
    }
}
