/** Long runs of calls with numbers from a fixed row, each answer compared with the model's. */
public final class ModelTest {
    private static final int RUNS = 4000;
    private static final int CALLS_OF_A_RUN = 512;

    private long row;
    private AbbreviationBook book;
    private Model model;
    private StringBuilder calls;
    private int callCount;
    private int letters;
    private int callsPerText;
    private boolean longWords;

    private static int failures = 0;
    private static int fullExpansions = 0;
    private static int longResults = 0;

    public static void main(String[] args) {
        for (int run = 0; run < RUNS; run++) {
            new ModelTest().tryRun(run);
        }
        System.out.println(failures + " failed, " + fullExpansions + " with many calls, " + longResults + " long");
        Checks.due("expansions that failed are tried", true, failures > 1000);
        Checks.due("expansions with more than fifty calls are tried", true, fullExpansions > 200);
        Checks.due("results of more than 180 signs are tried", true, longResults > 100);
        Checks.end();
    }

    private void tryRun(int run) {
        row = 1234567L * (run + 1);
        book = new AbbreviationBook();
        model = new Model();
        calls = new StringBuilder("run " + run + ":");
        letters = run % 3 == 0 ? 2 + number(24) : 3 + number(4);
        // Of ten signs so many are calls; the longer words stand where a run has few of them.
        callsPerText = run % 3 == 1 ? 6 + number(4) : 1 + number(7);
        longWords = run % 3 == 2;
        callCount = 0;
        if (run % 3 != 0 && !defineAll()) {
            return;
        }
        while (callCount < CALLS_OF_A_RUN) {
            if (!tryStep()) {
                return;
            }
        }
    }

    /** Most runs begin with definitions of all their letters, so that expansions get long. */
    private boolean defineAll() {
        for (int i = 0; i < letters; i++) {
            int letter = i;
            if (!typeText() || !same("define(" + letter + ")",
                    () -> book.define(letter), () -> model.define(letter))) {
                return false;
            }
        }
        return true;
    }

    private boolean tryStep() {
        switch (number(10)) {
            case 0:
                return typeText() && change();
            case 1:
            case 2:
            case 3:
            case 4:
                return number(3) == 0 ? change() : typeCalls() && expand();
            case 5:
                return number(4) != 0 || history();
            case 6:
                return queryTheResult();
            default:
                return query();
        }
    }

    private boolean typeText() {
        if (!same("clearBuffer()", book::clearBuffer, model::clearBuffer)) {
            return false;
        }
        StringBuilder text = new StringBuilder();
        writeText(text, 0);
        if (number(8) == 0 && text.length() > 0) {
            spoil(text);
        }
        int length = number(40) == 0 ? text.length() : Math.min(text.length(), 60);
        for (int i = 0; i < length && callCount < CALLS_OF_A_RUN; i++) {
            if (!append(text.charAt(i))) {
                return false;
            }
        }
        return number(3) != 0 || same("firstError()", book::firstError, model::firstError);
    }

    private boolean typeCalls() {
        StringBuilder text = new StringBuilder();
        for (int i = 1 + number(4); i > 0; i--) {
            text.append((char) ('A' + number(letters)));
            if (number(3) == 0) {
                text.append('(').append((char) ('A' + number(letters))).append(number(2) == 0 ? ",_?)" : "x)");
            }
        }
        if (!same("clearBuffer()", book::clearBuffer, model::clearBuffer)) {
            return false;
        }
        for (int i = 0; i < text.length(); i++) {
            if (!append(text.charAt(i))) {
                return false;
            }
        }
        return true;
    }

    private boolean append(int code) {
        return same("append(" + code + ")", () -> book.append(code), () -> model.append(code));
    }

    /** A text of some ten signs, of which some are calls. */
    private void writeText(StringBuilder text, int level) {
        for (int i = number(level == 0 ? 16 : 4); i > 0 && text.length() < 58; i--) {
            int kind = number(10);
            if (kind < callsPerText) {
                text.append((char) ('A' + number(letters)));
                if (number(2) == 0 && level < 4 && text.length() < 50) {
                    writeArguments(text, level);
                }
            } else {
                String signs = kind == 9 ? "_" : kind % 2 == 0 ? "?" : "abcdefghijklmnopqrstuvwxyz";
                int count = kind == 8 || longWords ? number(longWords ? 30 : 15) : 1;
                for (int k = 0; k < count && text.length() < 56; k++) {
                    text.append(signs.charAt(number(signs.length())));
                }
            }
        }
    }

    private void writeArguments(StringBuilder text, int level) {
        text.append('(');
        for (int i = number(number(3) == 0 ? 7 : 2); i > 0; i--) {
            writeText(text, level + 1);
            text.append(',');
        }
        writeText(text, level + 1);
        text.append(')');
    }

    private void spoil(StringBuilder text) {
        int place = number(text.length());
        char code = "(),(),(),?aZ_#1~!@[`{".charAt(number(21));
        switch (number(3)) {
            case 0: text.insert(place, code); break;
            case 1: text.deleteCharAt(place); break;
            default: text.setCharAt(place, code); break;
        }
    }

    private boolean change() {
        int letter = letter();
        int other = letter();
        int depth = number(3) == 0 ? number(15) - 1 : 4 + number(9);
        switch (number(12)) {
            case 0:
                return same("remove(" + letter + ")", () -> book.remove(letter), () -> model.remove(letter));
            case 1:
                return same("exchange(" + letter + "," + other + ")",
                        () -> book.exchange(letter, other), () -> model.exchange(letter, other));
            case 2:
                return same("set(" + depth + ")", () -> book.set(depth), () -> model.set(depth));
            case 3:
                return same("load(" + letter + ")", () -> book.load(letter), () -> model.load(letter));
            case 4:
                return same("ifDefined(" + letter + ")",
                        () -> book.ifDefined(letter), () -> model.ifDefined(letter));
            case 5:
            case 6:
            case 7:
                return expand();
            default:
                return same("define(" + letter + ")", () -> book.define(letter), () -> model.define(letter));
        }
    }

    private boolean expand() {
        int failuresBefore = model.count(4);
        return same("expand()", book::expand, model::expand) && noteExpansion(failuresBefore) && queryTheResult();
    }

    private boolean noteExpansion(int failuresBefore) {
        failures += model.count(4) > failuresBefore ? 1 : 0;
        fullExpansions += model.result(5) > 50 ? 1 : 0;
        longResults += model.result(0) > 180 ? 1 : 0;
        return true;
    }

    private boolean history() {
        int slot = number(6) == 0 ? number(5) - 1 : number(2);
        switch (number(4)) {
            case 0:
                return same("keep(" + slot + ")", () -> book.keep(slot), () -> model.keep(slot));
            case 1:
                return same("goBack(" + slot + ")", () -> book.goBack(slot), () -> model.goBack(slot));
            default:
                return same("undo()", book::undo, model::undo);
        }
    }

    private boolean queryTheResult() {
        for (int i = number(12); i > 0; i--) {
            int index = number(20) == 0 ? anything() : number(model.result(0) + 2);
            int place = number(20) == 0 ? anything() : number(model.result(7) + 2);
            int what = number(20) == 0 ? anything() : number(10) - 1;
            if (!same("sign(" + index + ")", () -> book.sign(index), () -> model.sign(index))
                    || !same("result(" + what + ")", () -> book.result(what), () -> model.result(what))
                    || !same("trace(" + place + "," + what + ")",
                            () -> book.trace(place, what), () -> model.trace(place, what))) {
                return false;
            }
        }
        return true;
    }

    private boolean query() {
        int letter = letter();
        int what = number(20) == 0 ? anything() : number(10) - 1;
        int length = number(20) == 0 ? anything() : number(24) - 1;
        switch (number(9)) {
            case 0:
                return same("rings()", book::rings, model::rings);
            case 1:
                return same("missing()", book::missing, model::missing);
            case 2:
                return same("chain(" + letter + ")", () -> book.chain(letter), () -> model.chain(letter));
            case 3:
                return same("uses(" + letter + "," + what + ")",
                        () -> book.uses(letter, what), () -> model.uses(letter, what));
            case 4:
                return same("count(" + what + ")", () -> book.count(what), () -> model.count(what));
            case 5:
                return same("meanHoles()", () -> Double.doubleToLongBits(book.meanHoles()),
                        () -> Double.doubleToLongBits(model.meanHoles()));
            case 6:
                return same("append(" + what + ")", () -> book.append(what), () -> model.append(what));
            case 7:
                return same("lengthOf(" + letter + "," + length + ")",
                        () -> book.lengthOf(letter, length), () -> model.lengthOf(letter, length));
            default:
                return same("body(" + letter + "," + what + ")",
                        () -> book.body(letter, what), () -> model.body(letter, what));
        }
    }

    /** What a book answers behind its 512th call is free: no call is made there. */
    private boolean same(String call, Checks.Call ofBook, Checks.Call ofModel) {
        if (callCount >= CALLS_OF_A_RUN) {
            return false;
        }
        callCount++;
        calls.append(' ').append(call);
        String want = Checks.outcomeOf(ofModel);
        String got = Checks.outcomeOf(ofBook);
        Checks.due(got.equals(want) ? call : calls.toString(), want, got);
        return got.equals(want);
    }

    private int letter() {
        return number(25) == 0 ? anything() : number(letters);
    }

    private int anything() {
        int[] numbers = {-1, -2, 0, 1, 25, 26, 27, 60, 61, 200, 1 << 16, Integer.MAX_VALUE, Integer.MIN_VALUE};
        return numbers[number(numbers.length)];
    }

    /** The next number of the row, from 0 on and less than the bound. */
    private int number(int bound) {
        row = row * 6364136223846793005L + 1442695040888963407L;
        return (int) ((row >>> 33) % bound);
    }
}
