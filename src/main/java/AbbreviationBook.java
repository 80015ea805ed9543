import java.util.Arrays;

/** A book of abbreviations: texts that call one another, and what they expand to. */
public final class AbbreviationBook {
    /** There is no such number. */
    public static final int NONE = -1;

    private static final int LETTERS = 26;
    private static final int BUFFER_ROOM = 60;
    private static final int FIRST_CODE = 33;
    private static final int LAST_CODE = 126;
    private static final int MOST_ARGUMENTS = 6;
    private static final int FIRST_DEPTH = 8;
    private static final int MOST_DEPTH = 12;
    private static final int MOST_EXPANDED = 60;
    private static final int MOST_SIGNS = 200;
    private static final int MOST_LISTED = 60;
    private static final int NUMBERS_OF_A_CALL = 6;
    private static final int MOST_SAVED = 6;
    private static final int SLOTS = 2;
    private static final int MOST_LENGTH = 20;

    private static final int EXPANDED = 0;
    private static final int NOT_DEFINED = 1;
    private static final int GUARDED = 2;
    private static final int TOO_DEEP = 3;

    private final State state = new State();
    private final History history = new History();
    private final int[] buffer = new int[BUFFER_ROOM];
    private final Reading reading = new Reading();
    private final CallGraph graph = new CallGraph();
    private final Expansion expansion = new Expansion();
    private int bufferLength = 0;

    /** Creates a book without definitions, with an empty result. */
    public AbbreviationBook() {
    }

    // ---- definitions

    /** Makes the text of the buffer the body of an abbreviation; returns the number of its holes. */
    public int define(int letter) throws IndexOutOfBoundsException, IllegalArgumentException {
        requireLetter(letter);
        requireCompleteText();
        history.saveState(state);
        Text text = new Text(copyOfBuffer(), reading);
        state.putDefinition(letter, text);
        bufferLength = 0;
        return text.holes;
    }

    /** Removes a definition; returns the number of abbreviations that are defined then. */
    public int remove(int letter) throws IndexOutOfBoundsException, IllegalStateException {
        requireLetter(letter);
        requireDefinition(letter);
        history.saveState(state);
        state.putDefinition(letter, null);
        return state.definedCount();
    }

    /** Exchanges two definitions; returns how many of both are defined. */
    public int exchange(int letter, int other) throws IndexOutOfBoundsException {
        requireLetter(letter);
        requireLetter(other);
        history.saveState(state);
        Text first = state.definitionOf(letter);
        Text second = state.definitionOf(other);
        state.putDefinition(letter, second);
        state.putDefinition(other, first);
        return (first == null ? 0 : 1) + (second == null ? 0 : 1);
    }

    /** Changes the greatest depth; returns the previous one. */
    public int set(int depth) throws IllegalArgumentException {
        if (depth < 1 || depth > MOST_DEPTH) {
            throw new IllegalArgumentException("the depth is not 1 to 12");
        }
        history.saveState(state);
        int previous = state.depth;
        state.depth = depth;
        return previous;
    }

    // ---- expansion

    /** Expands the text of the buffer; returns the length of the result, or NONE if it fails. */
    public int expand() throws IllegalArgumentException {
        requireCompleteText();
        history.saveState(state);
        if (!expansion.writeResult(state, buffer, bufferLength)) {
            state.failures++;
            return NONE;
        }
        state.outcome = expansion.makeOutcome();
        state.successes++;
        return state.outcome.signs.length;
    }

    // ---- buffer

    /** Appends a character to the buffer; returns its new length. */
    public int append(int code) throws IllegalArgumentException, IllegalStateException {
        if (code < FIRST_CODE || code > LAST_CODE) {
            throw new IllegalArgumentException("the code is not 33 to 126");
        }
        if (bufferLength < 0 || bufferLength >= buffer.length) {
            throw new IllegalStateException("the buffer is full");
        }
        buffer[bufferLength] = code;
        bufferLength++;
        return bufferLength;
    }

    /** Clears the buffer; returns the length that it had. */
    public int clearBuffer() {
        int previous = bufferLength;
        bufferLength = 0;
        return previous;
    }

    /** Returns the index of the first error of the buffer, or its length. */
    public int firstError() {
        reading.readText(buffer, bufferLength);
        return reading.validLength;
    }

    /** Puts the body of an abbreviation into the buffer; returns the buffer's length. */
    public int load(int letter) throws IndexOutOfBoundsException, IllegalStateException {
        requireLetter(letter);
        Text text = requireDefinition(letter);
        int length = Math.min(text.signs.length, buffer.length);
        for (int i = 0; i < length; i++) {
            buffer[i] = text.signs[i];
        }
        bufferLength = length;
        return bufferLength;
    }

    // ---- undo and snapshots

    /** Restores the state that was saved last; returns the number of saved states that are left. */
    public int undo() throws IllegalStateException {
        if (!history.restoreSaved(state)) {
            throw new IllegalStateException("no state is saved");
        }
        return history.savedCount;
    }

    /** Takes a snapshot of the state; returns the number of abbreviations that are defined. */
    public int keep(int slot) throws IllegalArgumentException {
        requireSlot(slot);
        history.takeSnapshot(slot, state);
        return state.definedCount();
    }

    /** Restores a snapshot; returns the number of abbreviations that are defined then. */
    public int goBack(int slot) throws IllegalArgumentException, IllegalStateException {
        requireSlot(slot);
        State snapshot = history.snapshotIn(slot);
        if (snapshot == null) {
            throw new IllegalStateException("the slot is empty");
        }
        history.saveState(state);
        state.copyFrom(snapshot);
        return state.definedCount();
    }

    // ---- queries about definitions; nothing changes

    /** Returns a number of a definition, or NONE if it is not defined. */
    public int body(int letter, int what) throws IndexOutOfBoundsException, IllegalArgumentException {
        requireLetter(letter);
        requireWhat(what, 5);
        Text text = state.definitionOf(letter);
        if (text == null) {
            return NONE;
        }
        switch (what) {
            case 0: return text.signs.length;
            case 1: return text.holes;
            case 2: return text.calls;
            case 3: return text.mostArguments;
            case 4: return text.nesting;
            default: return text.smallSigns;
        }
    }

    /** Returns the set of those that an abbreviation calls, or of those that call it. */
    public int uses(int letter, int what) throws IndexOutOfBoundsException, IllegalArgumentException {
        requireLetter(letter);
        requireWhat(what, 3);
        graph.takeFrom(state);
        switch (what) {
            case 0: return graph.calledBy(letter);
            case 1: return graph.reachedFrom(letter);
            case 2: return graph.callersOf(letter);
            default: return graph.reaching(letter);
        }
    }

    /** Returns the set of the abbreviations that are in a ring. */
    public int rings() {
        graph.takeFrom(state);
        return graph.inRings();
    }

    /** Returns the set of the abbreviations that are called in a body, but are not defined. */
    public int missing() {
        graph.takeFrom(state);
        return graph.calledButNotDefined();
    }

    /** Returns the length of the longest chain from an abbreviation on, or NONE if it has no end. */
    public int chain(int letter) throws IndexOutOfBoundsException {
        requireLetter(letter);
        graph.takeFrom(state);
        return graph.longestChain(letter);
    }

    /** Returns the set of those that would be in a ring if the buffer was the letter's body. */
    public int ifDefined(int letter) throws IndexOutOfBoundsException, IllegalArgumentException {
        requireLetter(letter);
        requireCompleteText();
        graph.takeFrom(state);
        graph.tryBody(letter, reading.called);
        return graph.inRings();
    }

    // ---- queries about expansions; nothing changes

    /** Returns the code of a character of the result, or NONE if it is not so long. */
    public int sign(int index) throws IllegalArgumentException {
        if (index < 0) {
            throw new IllegalArgumentException("the index is negative");
        }
        int[] signs = state.outcome.signs;
        return index < signs.length ? signs[index] : NONE;
    }

    /** Returns a number of the result. */
    public int result(int what) throws IllegalArgumentException {
        requireWhat(what, 7);
        Outcome outcome = state.outcome;
        switch (what) {
            case 0: return outcome.signs.length;
            case 1: return outcome.occurrencesOf('#');
            case 2: return outcome.occurrencesOf('%');
            case 3: return outcome.occurrencesOf('$');
            case 4: return outcome.occurrencesOf('?');
            case 5: return outcome.expandedCalls;
            case 6: return outcome.deepest;
            default: return outcome.listedCalls();
        }
    }

    /** Returns a number of a call in the trace, or NONE if there are not so many. */
    public int trace(int index, int what) throws IllegalArgumentException {
        if (index < 0) {
            throw new IllegalArgumentException("the index is negative");
        }
        requireWhat(what, NUMBERS_OF_A_CALL - 1);
        return state.outcome.numberOfCall(index, what);
    }

    /** Returns how long the result of a call with arguments of one length would be, or NONE. */
    public int lengthOf(int letter, int length) throws IndexOutOfBoundsException, IllegalArgumentException {
        requireLetter(letter);
        if (length < 0 || length > MOST_LENGTH) {
            throw new IllegalArgumentException("the length is not 0 to 20");
        }
        Text text = state.definitionOf(letter);
        if (text == null) {
            return NONE;
        }
        return expansion.measureCall(state, letter, text.holes, length);
    }

    /** Returns a number of the whole book. */
    public int count(int what) throws IllegalArgumentException {
        requireWhat(what, 7);
        switch (what) {
            case 0: return state.definedCount();
            case 1: return state.definedSet();
            case 2: return state.depth;
            case 3: return state.successes;
            case 4: return state.failures;
            case 5: return state.callsOfBodies();
            case 6: return history.savedCount;
            default: return bufferLength;
        }
    }

    /** Returns the mean number of holes of a body; 0.0 without any. */
    public double meanHoles() {
        int defined = state.definedCount();
        if (defined == 0) {
            return 0.0;
        }
        return (double) state.holesOfBodies() / (double) defined;
    }

    // ---- what the calls of the face share

    private static boolean isLetter(int letter) {
        return letter >= 0 && letter < LETTERS;
    }

    private static boolean isAbbreviation(int sign) {
        return sign >= 'A' && sign <= 'Z';
    }

    private static void requireLetter(int letter) {
        if (!isLetter(letter)) {
            throw new IndexOutOfBoundsException("the letter is not 0 to 25");
        }
    }

    private static void requireWhat(int what, int last) {
        if (what < 0 || what > last) {
            throw new IllegalArgumentException("there is no such number");
        }
    }

    private static void requireSlot(int slot) {
        if (slot < 0 || slot >= SLOTS) {
            throw new IllegalArgumentException("there is no such slot");
        }
    }

    private Text requireDefinition(int letter) {
        Text text = state.definitionOf(letter);
        if (text == null) {
            throw new IllegalStateException("it is not defined");
        }
        return text;
    }

    private int[] copyOfBuffer() {
        return Arrays.copyOf(buffer, Math.max(0, Math.min(bufferLength, buffer.length)));
    }

    /** Leaves in reading what the text of the buffer holds. */
    private void requireCompleteText() {
        reading.readText(buffer, bufferLength);
        if (!reading.isComplete()) {
            throw new IllegalArgumentException("the buffer is not a complete text");
        }
    }

    /** A body. It never changes, so that states can share it. */
    private static final class Text {
        final int[] signs;
        final int holes;
        final int calls;
        final int mostArguments;
        final int nesting;
        final int smallSigns;
        final int called;

        Text(int[] signs, Reading reading) {
            this.signs = signs;
            holes = reading.holes;
            calls = reading.calls;
            mostArguments = reading.mostArguments;
            nesting = reading.nesting;
            smallSigns = reading.smallSigns;
            called = reading.called;
        }
    }

    /** Reads the buffer up to its first error, and counts what is in it. */
    private static final class Reading {
        private final int[] argumentCounts = new int[BUFFER_ROOM];
        private int openCalls = 0;
        private int wholeLength = 0;
        int validLength = 0;
        int holes = 0;
        int calls = 0;
        int mostArguments = 0;
        int nesting = 0;
        int smallSigns = 0;
        int called = 0;

        void readText(int[] signs, int length) {
            startOver(length);
            int before = 0;
            for (int i = 0; i < length && i < signs.length; i++) {
                if (!accepts(signs[i], before)) {
                    return;
                }
                before = signs[i];
                validLength = i + 1;
            }
        }

        boolean isComplete() {
            return validLength == wholeLength && openCalls == 0;
        }

        private void startOver(int length) {
            wholeLength = length;
            validLength = 0;
            openCalls = 0;
            holes = 0;
            calls = 0;
            mostArguments = 0;
            nesting = 0;
            smallSigns = 0;
            called = 0;
        }

        private boolean accepts(int sign, int before) {
            if (sign >= 'a' && sign <= 'z' || sign == '_') {
                smallSigns++;
                return true;
            }
            if (sign == '?') {
                holes++;
                return true;
            }
            if (isAbbreviation(sign)) {
                noteCall(sign - 'A');
                return true;
            }
            if (sign == '(') {
                return isAbbreviation(before) && opensCall();
            }
            if (sign == ',') {
                return addsArgument();
            }
            return sign == ')' && closesCall();
        }

        private void noteCall(int letter) {
            calls++;
            called |= 1 << letter;
            nesting = Math.max(nesting, openCalls + 1);
        }

        private boolean opensCall() {
            if (openCalls < 0 || openCalls >= argumentCounts.length) {
                return false;
            }
            argumentCounts[openCalls] = 1;
            mostArguments = Math.max(mostArguments, 1);
            openCalls++;
            return true;
        }

        private boolean addsArgument() {
            int innermost = openCalls - 1;
            if (innermost < 0 || innermost >= argumentCounts.length) {
                return false;
            }
            if (argumentCounts[innermost] >= MOST_ARGUMENTS) {
                return false;
            }
            argumentCounts[innermost]++;
            mostArguments = Math.max(mostArguments, argumentCounts[innermost]);
            return true;
        }

        private boolean closesCall() {
            if (openCalls <= 0) {
                return false;
            }
            openCalls--;
            return true;
        }
    }

    /** All that undo and the snapshots bring back. */
    private static final class State {
        private final Text[] definitions = new Text[LETTERS];
        Outcome outcome = new Outcome(new int[0], new int[0], 0, 0);
        int depth = FIRST_DEPTH;
        int successes = 0;
        int failures = 0;

        void copyFrom(State other) {
            for (int i = 0; i < LETTERS; i++) {
                definitions[i] = other.definitions[i];
            }
            outcome = other.outcome;
            depth = other.depth;
            successes = other.successes;
            failures = other.failures;
        }

        /** Null stands for an abbreviation that is not defined. */
        Text definitionOf(int letter) {
            return isLetter(letter) ? definitions[letter] : null;
        }

        void putDefinition(int letter, Text text) {
            if (isLetter(letter)) {
                definitions[letter] = text;
            }
        }

        int definedSet() {
            int defined = 0;
            for (int i = 0; i < LETTERS; i++) {
                if (definitions[i] != null) {
                    defined |= 1 << i;
                }
            }
            return defined;
        }

        int definedCount() {
            return Integer.bitCount(definedSet());
        }

        int callsOfBodies() {
            int calls = 0;
            for (int i = 0; i < LETTERS; i++) {
                Text text = definitions[i];
                if (text != null) {
                    calls += text.calls;
                }
            }
            return calls;
        }

        int holesOfBodies() {
            int holes = 0;
            for (int i = 0; i < LETTERS; i++) {
                Text text = definitions[i];
                if (text != null) {
                    holes += text.holes;
                }
            }
            return holes;
        }
    }

    /** The saved states and the snapshots; a place is made when it is used first, and used again. */
    private static final class History {
        private final State[] saved = new State[MOST_SAVED];
        private final State[] snapshots = new State[SLOTS];
        private int newest = 0;
        int savedCount = 0;

        /** Goes round, so that the seventh state takes the place of the oldest one. */
        void saveState(State state) {
            newest = newest + 1 < MOST_SAVED ? newest + 1 : 0;
            copyInto(saved, newest, state);
            if (savedCount < MOST_SAVED) {
                savedCount++;
            }
        }

        boolean restoreSaved(State state) {
            if (savedCount <= 0 || newest < 0 || newest >= saved.length) {
                return false;
            }
            State last = saved[newest];
            if (last == null) {
                return false;
            }
            state.copyFrom(last);
            newest = newest > 0 ? newest - 1 : MOST_SAVED - 1;
            savedCount--;
            return true;
        }

        void takeSnapshot(int slot, State state) {
            copyInto(snapshots, slot, state);
        }

        /** Null stands for an empty slot. */
        State snapshotIn(int slot) {
            return slot >= 0 && slot < snapshots.length ? snapshots[slot] : null;
        }

        private static void copyInto(State[] places, int index, State state) {
            if (index < 0 || index >= places.length) {
                return;
            }
            State place = places[index];
            if (place == null) {
                place = new State();
                places[index] = place;
            }
            place.copyFrom(state);
        }
    }

    /** Who calls whom: a copy, so that a body can be tried that is not defined. */
    private static final class CallGraph {
        private final int[] called = new int[LETTERS];
        private final int[] reached = new int[LETTERS];
        private int defined = 0;

        void takeFrom(State state) {
            defined = state.definedSet();
            for (int i = 0; i < LETTERS; i++) {
                Text text = state.definitionOf(i);
                called[i] = text == null ? 0 : text.called;
            }
        }

        void tryBody(int letter, int calledInIt) {
            if (isLetter(letter)) {
                called[letter] = calledInIt;
            }
        }

        int calledBy(int letter) {
            return isLetter(letter) ? called[letter] : 0;
        }

        int reachedFrom(int letter) {
            followCalls();
            return isLetter(letter) ? reached[letter] : 0;
        }

        int callersOf(int letter) {
            int callers = 0;
            for (int i = 0; i < LETTERS; i++) {
                if (holds(called[i], letter)) {
                    callers |= 1 << i;
                }
            }
            return callers;
        }

        int reaching(int letter) {
            followCalls();
            int set = 0;
            for (int i = 0; i < LETTERS; i++) {
                if (holds(reached[i], letter)) {
                    set |= 1 << i;
                }
            }
            return set;
        }

        int inRings() {
            followCalls();
            int set = 0;
            for (int i = 0; i < LETTERS; i++) {
                if (holds(reached[i], i)) {
                    set |= 1 << i;
                }
            }
            return set;
        }

        int calledButNotDefined() {
            return calledInBodiesOf(defined) & ~defined;
        }

        /** A chain of more abbreviations than there are comes by one of them twice: it has no end. */
        int longestChain(int letter) {
            int lastOnes = isLetter(letter) ? defined & 1 << letter : 0;
            for (int length = 0; length <= LETTERS; length++) {
                if (lastOnes == 0) {
                    return length;
                }
                lastOnes = calledInBodiesOf(lastOnes) & defined;
            }
            return NONE;
        }

        /** One pass does: a way through a letter is tried when those through the letters before are known. */
        private void followCalls() {
            for (int i = 0; i < LETTERS; i++) {
                reached[i] = called[i];
            }
            for (int between = 0; between < LETTERS; between++) {
                for (int from = 0; from < LETTERS; from++) {
                    if (holds(reached[from], between)) {
                        reached[from] |= reached[between];
                    }
                }
            }
        }

        private int calledInBodiesOf(int set) {
            int union = 0;
            for (int i = 0; i < LETTERS; i++) {
                if (holds(set, i)) {
                    union |= called[i];
                }
            }
            return union;
        }

        private static boolean holds(int set, int letter) {
            return isLetter(letter) && (set & 1 << letter) != 0;
        }
    }

    /** What an expansion that did not fail left. It never changes, so that states can share it. */
    private static final class Outcome {
        final int[] signs;
        final int expandedCalls;
        final int deepest;
        private final int[] numbersOfCalls;

        Outcome(int[] signs, int[] numbersOfCalls, int expandedCalls, int deepest) {
            this.signs = signs;
            this.numbersOfCalls = numbersOfCalls;
            this.expandedCalls = expandedCalls;
            this.deepest = deepest;
        }

        int occurrencesOf(int sign) {
            int occurrences = 0;
            for (int i = 0; i < signs.length; i++) {
                if (signs[i] == sign) {
                    occurrences++;
                }
            }
            return occurrences;
        }

        int listedCalls() {
            return numbersOfCalls.length / NUMBERS_OF_A_CALL;
        }

        int numberOfCall(int index, int what) {
            if (index < 0 || index >= listedCalls() || what < 0 || what >= NUMBERS_OF_A_CALL) {
                return NONE;
            }
            return numbersOfCalls[index * NUMBERS_OF_A_CALL + what];
        }
    }

    /**
     * Expands a text, or measures what it would be.
     *
     * The texts that are being written (the result, arguments, bodies) lie one behind the other on
     * one stack of signs. A mark tells where each of them starts; what is written goes to the one
     * whose mark was set last. To measure, the same is done with the lengths alone.
     */
    private static final class Expansion {
        // Thirteen texts can be open: the buffer's and twelve bodies.
        private static final int MOST_OPEN_TEXTS = MOST_DEPTH + 1;
        // At once there lie: what the texts' own signs wrote, what six arguments filled into the
        // holes of each text (or measureCall gave: not more), and what the expanded calls wrote.
        private static final int STACK_ROOM = MOST_OPEN_TEXTS * BUFFER_ROOM
                + MOST_OPEN_TEXTS * MOST_ARGUMENTS * MOST_SIGNS + MOST_EXPANDED * MOST_SIGNS;
        // A text sets one mark for itself, and one at most for each of its signs.
        private static final int MARK_ROOM = (MOST_OPEN_TEXTS + 1) * (BUFFER_ROOM + 1);
        private static final int WAITING_ROOM = MOST_OPEN_TEXTS * BUFFER_ROOM;

        private final int[] stack = new int[STACK_ROOM];
        private final int[] marks = new int[MARK_ROOM];
        private final int[] waitingLetters = new int[WAITING_ROOM];
        private final int[] waitingMarks = new int[WAITING_ROOM];
        private final int[] numbersOfCalls = new int[MOST_LISTED * NUMBERS_OF_A_CALL];
        private int top = 0;
        private int markCount = 0;
        private int waitingCount = 0;
        private int listedCount = 0;
        private int expandedCount = 0;
        private int deepest = 0;
        private int openBodies = 0;
        private boolean writing = false;
        private boolean broken = false;

        /** Tells whether the expansion did not fail; makeOutcome then gives what it left. */
        boolean writeResult(State state, int[] signs, int length) {
            startOver(true);
            setMark();
            writeText(state, signs, length, 0, 0, 0);
            return !broken;
        }

        Outcome makeOutcome() {
            int length = Math.max(0, Math.min(top, MOST_SIGNS));
            int numbers = Math.max(0, Math.min(listedCount, MOST_LISTED)) * NUMBERS_OF_A_CALL;
            return new Outcome(Arrays.copyOf(stack, length), Arrays.copyOf(numbersOfCalls, numbers),
                    expandedCount, deepest);
        }

        /** Returns the length of what is written for a call that stands in no body, or NONE. */
        int measureCall(State state, int letter, int arguments, int length) {
            startOver(false);
            setMark();
            letCallWait(letter);
            for (int i = 0; i < arguments && i < BUFFER_ROOM; i++) {
                setMark();
                top += length;
            }
            finishCall(state, 0);
            return broken ? NONE : top;
        }

        private void startOver(boolean writes) {
            top = 0;
            markCount = 0;
            waitingCount = 0;
            listedCount = 0;
            expandedCount = 0;
            deepest = 0;
            openBodies = 0;
            writing = writes;
            broken = false;
        }

        /** The arguments that fill the text's holes start at firstMark and the marks behind it. */
        private void writeText(State state, int[] signs, int length, int open, int firstMark, int arguments) {
            int holes = 0;
            for (int i = 0; i < length && i < signs.length && !broken; i++) {
                int sign = signs[i];
                if (sign == '?') {
                    fillHole(holes, open, firstMark, arguments);
                    holes++;
                } else if (isAbbreviation(sign)) {
                    letCallWait(sign - 'A');
                    if (i + 1 >= length || i + 1 >= signs.length || signs[i + 1] != '(') {
                        finishCall(state, open);
                    }
                } else if (sign == '(' || sign == ',') {
                    setMark();
                } else if (sign == ')') {
                    finishCall(state, open);
                } else {
                    writeSign(sign);
                }
            }
        }

        private void fillHole(int hole, int open, int firstMark, int arguments) {
            if (open == 0) {
                writeSign('?');
            } else if (hole < arguments) {
                int start = markAt(firstMark + hole);
                writeCopy(start, markAt(firstMark + hole + 1) - start);
            }
        }

        private void letCallWait(int letter) {
            if (waitingCount < 0 || waitingCount >= WAITING_ROOM) {
                broken = true;
                return;
            }
            waitingLetters[waitingCount] = letter;
            waitingMarks[waitingCount] = markCount;
            waitingCount++;
        }

        /** The call's arguments lie at the top of the stack; what is written takes their place. */
        private void finishCall(State state, int open) {
            int last = waitingCount - 1;
            if (broken || last < 0 || last >= WAITING_ROOM) {
                broken = true;
                return;
            }
            waitingCount = last;
            int letter = waitingLetters[last];
            int firstMark = waitingMarks[last];
            int arguments = markCount - firstMark;
            int start = arguments > 0 ? markAt(firstMark) : top;
            int end = top;
            setMark();
            int ending = endingOf(state, letter, open);
            if (ending == EXPANDED) {
                writeBody(state, letter, open + 1, firstMark, arguments);
            } else {
                writeSign(signOf(ending));
            }
            int written = top - end;
            moveSigns(end, start, written);
            top = start + written;
            markCount = firstMark;
            if (!takesMore(0)) {
                broken = true;
            }
            listCall(letter, ending, open, arguments, written, end - start);
        }

        private int endingOf(State state, int letter, int open) {
            if (state.definitionOf(letter) == null) {
                return NOT_DEFINED;
            }
            if ((openBodies & 1 << letter) != 0) {
                return GUARDED;
            }
            return open >= state.depth ? TOO_DEEP : EXPANDED;
        }

        private static int signOf(int ending) {
            switch (ending) {
                case NOT_DEFINED: return '$';
                case GUARDED: return '#';
                default: return '%';
            }
        }

        private void writeBody(State state, int letter, int depth, int firstMark, int arguments) {
            Text text = state.definitionOf(letter);
            if (text == null || depth > MOST_DEPTH || expandedCount >= MOST_EXPANDED) {
                broken = true;
                return;
            }
            expandedCount++;
            deepest = Math.max(deepest, depth);
            openBodies |= 1 << letter;
            writeText(state, text.signs, text.signs.length, depth, firstMark, arguments);
            openBodies &= ~(1 << letter);
        }

        private void listCall(int letter, int ending, int open, int arguments, int written, int given) {
            if (listedCount < 0 || listedCount >= MOST_LISTED) {
                return;
            }
            int row = listedCount * NUMBERS_OF_A_CALL;
            numbersOfCalls[row] = letter;
            numbersOfCalls[row + 1] = ending;
            numbersOfCalls[row + 2] = open;
            numbersOfCalls[row + 3] = arguments;
            numbersOfCalls[row + 4] = written;
            numbersOfCalls[row + 5] = given;
            listedCount++;
        }

        private void setMark() {
            if (markCount < 0 || markCount >= MARK_ROOM) {
                broken = true;
                return;
            }
            marks[markCount] = top;
            markCount++;
        }

        private int markAt(int index) {
            return index >= 0 && index < MARK_ROOM ? marks[index] : top;
        }

        /** Tells whether the text that was begun last can be so much longer. */
        private boolean takesMore(int length) {
            int last = markCount - 1;
            int start = last >= 0 && last < MARK_ROOM ? marks[last] : 0;
            return top + length - start <= MOST_SIGNS && top + length <= STACK_ROOM;
        }

        private void writeSign(int sign) {
            if (!takesMore(1)) {
                broken = true;
                return;
            }
            if (writing && top >= 0) {
                stack[top] = sign;
            }
            top++;
        }

        private void writeCopy(int from, int length) {
            if (!takesMore(length)) {
                broken = true;
                return;
            }
            moveSigns(from, top, length);
            top += length;
        }

        /** Goes upwards, so that signs can be moved down over themselves. */
        private void moveSigns(int from, int to, int length) {
            if (!writing || from < 0 || to < 0) {
                return;
            }
            for (int i = 0; i < length && from + i < STACK_ROOM && to + i < STACK_ROOM; i++) {
                stack[to + i] = stack[from + i];
            }
        }
    }
}
