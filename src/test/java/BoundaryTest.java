import java.util.Set;
import java.util.TreeSet;

/**
 * The boundary cases of the document, promise by promise: the last value that is taken and the first that is refused,
 * empty and full, both ends of int, and of two exceptions that are due at once the one that is listed first.
 *
 * A call that must leave the state unchanged is made on a laboratory of its own, whose whole state is then compared
 * with that of a second laboratory that was not called.
 */
public final class BoundaryTest extends Bench {
    private interface Question {
        Object answer(PatternLaboratory x);
    }

    private interface IntQuestion {
        Object answer(PatternLaboratory x, int number);
    }

    private static final int MIN = Integer.MIN_VALUE;
    private static final int MAX = Integer.MAX_VALUE;
    private static final String FULL_PATTERN = "012340123401234";
    /** 24 letters without a cube. */
    private static final String FULL = "011010011001011001101001";
    private static final String SQUARE_FREE = "0102012021012010201202";
    private static final String ZEROS = "000000000000000000000000";

    /** How many kinds of exceptions each promise from 2 on lists; that of countSpoiled for a long search cannot be. */
    private static final int[] EXCEPTIONS = {
        2, 0, 0, 1, 0, 1, 0, 0, 2, 1, 2, 2, 2, 1, 2, 0, 0, 1, 2, 1, 1, 2, 1, 2, 2, 3, 1, 1, 1, 0, 1, 2, 0, 1, 2, 4, 3, 3,
        4, 2, 1, 1, 2, 4, 2, 0, 1,
    };
    private static final Set<String> refusals = new TreeSet<>();

    // ---- laboratories from texts, and texts from laboratories

    /** A text tells letters, pattern, word and images, with '-' for nothing. */
    private static void prepare(PatternLaboratory x, String text) {
        String[] parts = text.replace("-", "").split(" ", -1);
        x.setLetterCount(Integer.parseInt(parts[0]));
        write(x, parts[1]);
        for (char c : parts[2].toCharArray()) {
            x.appendLetter(c - '0');
        }
        if (parts.length > 3) {
            images(x, parts[3].split(",", -1));
        }
    }

    /** A laboratory in which no shelf is filled, nothing is remembered and nothing is saved. */
    private static PatternLaboratory bare(String text) {
        PatternLaboratory x = new PatternLaboratory();
        prepare(x, text);
        return x;
    }

    /**
     * A laboratory that remembers an occurrence (variable 3 with the image 0, variable 1 with 21) and has a snapshot,
     * 0121 on shelf 0, the empty pattern on shelf 2, and nothing on the shelves 1 and 3.
     */
    private static PatternLaboratory furnished(String text) {
        PatternLaboratory x = new PatternLaboratory();
        prepare(x, "4 313 0210 31,2,,0123");
        x.findOccurrence();
        x.save();
        write(x, "0121");
        x.shelve(0);
        x.clearPattern();
        x.shelve(2);
        prepare(x, text);
        return x;
    }

    /** All that later calls can find out; the laboratory is of no use afterwards. */
    private static String state(PatternLaboratory x) {
        StringBuilder text = new StringBuilder();
        for (int variable = 0; variable < 5; variable++) {
            int v = variable;
            text.append(outcome(() -> image(x, v))).append(' ');
        }
        text.append("desk ").append(desk(x));
        for (int shelf = 0; shelf < 4; shelf++) {
            int s = shelf;
            text.append(" shelf ").append(outcome(() -> x.useShelf(s) + ":" + pattern(x)));
        }
        text.append(" saved ").append(outcome(() -> x.restore() + ":" + desk(x)));
        compare("the work after that", "22 0102012021 12 5 3 5 3 1 0 2 4 6", outcome(() -> work(x)));
        return text.toString();
    }

    /** Answers that no earlier call may change, by what it has left behind in the rows that calls work with. */
    private static String work(PatternLaboratory x) {
        prepare(x, "3 00 -");
        StringBuilder text = new StringBuilder();
        text.append(x.extend(10)).append(' ').append(word(x)).append(' ').append(x.countAvoiding(3));
        text.append(' ').append(x.longestAvoiding(5)).append(' ').append(x.strongestFactor(0));
        text.append(' ').append(x.strongestFactor(1)).append(' ').append(x.strongestFactor(2));
        prepare(x, "3 010 0210");
        text.append(' ').append(x.occurrenceCount()).append(' ').append(x.findOccurrence());
        text.append(' ').append(x.imageLength(1)).append(' ').append(x.wordLength());
        prepare(x, "3 00 -");
        text.append(' ').append(x.findMorphism(1, 2));
        return text.toString();
    }

    /** Pattern, word and images; a letter that the alphabet lacks shows itself by an exception. */
    private static String desk(PatternLaboratory x) {
        StringBuilder text = new StringBuilder(pattern(x)).append('/').append(word(x));
        for (int letter = 0; letter < 4; letter++) {
            int l = letter;
            text.append('/').append(outcome(() -> x.iterate(l, 1) + ":" + word(x)));
        }
        return text.toString();
    }

    // ---- kinds of rows

    private static void keeps(String what, Object want, Question question, PatternLaboratory x, PatternLaboratory y) {
        compare(what, want, outcome(() -> question.answer(x)));
        compare("the state after " + what, state(y), state(x));
    }

    /** A call that throws, and leaves the state unchanged. */
    private static void refused(String what, Class<?> exception, String text, Question question) {
        refusals.add(promise + " " + exception.getSimpleName());
        keeps(what + " of " + text, exception, question, bare(text), bare(text));
        keeps(what + " of furnished " + text, exception, question, furnished(text), furnished(text));
    }

    private static void refusedBare(String what, Class<?> exception, String text, Question question) {
        refusals.add(promise + " " + exception.getSimpleName());
        keeps(what + " of " + text, exception, question, bare(text), bare(text));
    }

    private static void refusedFurnished(String what, Class<?> exception, String text, Question question) {
        refusals.add(promise + " " + exception.getSimpleName());
        keeps(what + " of furnished " + text, exception, question, furnished(text), furnished(text));
    }

    /** Refused are the numbers beside a range, and both ends of int. */
    private static void range(String what, Class<?> exception, String text, int least, int most, IntQuestion question) {
        int[] numbers = {least - 1, most + 1, MIN, MAX};
        for (int number : numbers) {
            refused(what + "(" + number + ")", exception, text, x -> question.answer(x, number));
        }
    }

    /** A call that answers, and leaves the state unchanged. */
    private static void asked(String what, Object want, String text, Question question) {
        keeps(what + " of " + text, want, question, furnished(text), furnished(text));
    }

    /** A call that answers, and the pattern and the word that it leaves. */
    private static void does(String what, Object want, String left, String text, Question question) {
        PatternLaboratory x = furnished(text);
        compare(what + " of " + text, want, outcome(() -> question.answer(x)));
        compare("pattern and word after " + what + " of " + text, left, pattern(x) + "/" + word(x));
    }

    // ---- the pattern

    private static void newObject() {
        promise = 1;
        due("patternLength()", 0, () -> new PatternLaboratory().patternLength());
        due("wordLength()", 0, () -> new PatternLaboratory().wordLength());
        due("appendLetter(1)", 1, () -> new PatternLaboratory().appendLetter(1));
        due("appendLetter(2)", ARGUMENT, () -> new PatternLaboratory().appendLetter(2));
        due("setLetterCount(4)", 2, () -> new PatternLaboratory().setLetterCount(4));
        String nothing = STATE.toString();
        String noLetter = ARGUMENT.toString();
        StringBuilder want = new StringBuilder();
        for (int variable = 0; variable < 5; variable++) {
            want.append(nothing).append(' ');
        }
        want.append("desk //0:/0:/").append(noLetter).append('/').append(noLetter);
        for (int shelf = 0; shelf < 4; shelf++) {
            want.append(" shelf ").append(nothing);
        }
        want.append(" saved ").append(nothing);
        due("the state", want.toString(), () -> state(new PatternLaboratory()));
    }

    private static void appending() {
        promise = 2;
        does("appendVariable(0)", 2, "40/1", "2 4 1", x -> x.appendVariable(0));
        does("appendVariable(4)", 1, "4/1", "2 - 1", x -> x.appendVariable(4));
        range("appendVariable", ARGUMENT, "2 01 1", 0, 4, (x, n) -> x.appendVariable(n));
        does("the 15th variable", 15, FULL_PATTERN + "/1", "2 01234012340123 1", x -> x.appendVariable(4));
        refused("the 16th variable", STATE, "2 " + FULL_PATTERN + " 1", x -> x.appendVariable(0));
        range("appendVariable, full", ARGUMENT, "2 " + FULL_PATTERN + " 1", 0, 4, (x, n) -> x.appendVariable(n));
        promise = 3;
        does("clearPattern()", 15, "/1", "2 " + FULL_PATTERN + " 1", x -> x.clearPattern());
        does("clearPattern()", 0, "/1", "2 - 1", x -> x.clearPattern());
        promise = 4;
        asked("patternLength()", 0, "2 - 1", x -> x.patternLength());
        asked("patternLength()", 15, "2 " + FULL_PATTERN + " 1", x -> x.patternLength());
        promise = 5;
        asked("patternVariable(0)", 4, "2 402 1", x -> x.patternVariable(0));
        asked("patternVariable(2)", 2, "2 402 1", x -> x.patternVariable(2));
        range("patternVariable", INDEX, "2 402 1111", 0, 2, (x, n) -> x.patternVariable(n));
        range("patternVariable", INDEX, "2 - 1111", 0, -1, (x, n) -> x.patternVariable(n));
        asked("patternVariable(14)", 4, "2 " + FULL_PATTERN + " 1", x -> x.patternVariable(14));
        range("patternVariable", INDEX, "2 " + FULL_PATTERN + " " + FULL, 0, 14, (x, n) -> x.patternVariable(n));
        PatternLaboratory cleared = bare("2 0123 1");
        cleared.clearPattern();
        cleared.appendVariable(1);
        due("patternVariable(1) of what was there before", INDEX, () -> cleared.patternVariable(1));
        promise = 6;
        asked("variables()", 0, "2 - 1", x -> x.variables());
        asked("variables()", 1, "2 00 1", x -> x.variables());
        asked("variables()", 16, "2 4 1", x -> x.variables());
        asked("variables()", 31, "2 " + FULL_PATTERN + " 1", x -> x.variables());
    }

    private static void ziminWords() {
        promise = 7;
        does("loadZimin(1)", 1, "0/1", "2 " + FULL_PATTERN + " 1", x -> x.loadZimin(1));
        does("loadZimin(4)", 15, "010201030102010/1", "2 - 1", x -> x.loadZimin(4));
        range("loadZimin", ARGUMENT, "2 44 1", 1, 4, (x, n) -> x.loadZimin(n));
        range("loadZimin", ARGUMENT, "2 - 1", 1, 4, (x, n) -> x.loadZimin(n));
        PatternLaboratory full = bare("2 - 1");
        full.loadZimin(4);
        due("appendVariable(0) behind Zimin word 4", STATE, () -> full.appendVariable(0));
        promise = 10;
        range("occursInZimin", ARGUMENT, "2 01 1", 1, 4, (x, n) -> x.occursInZimin(n));
        range("occursInZimin, empty", ARGUMENT, "2 - 1", 1, 4, (x, n) -> x.occursInZimin(n));
        refused("occursInZimin(1)", STATE, "2 - 1", x -> x.occursInZimin(1));
        refused("occursInZimin(4)", STATE, "2 - 1", x -> x.occursInZimin(4));
        asked("occursInZimin(1)", true, "2 4 1", x -> x.occursInZimin(1));
        asked("occursInZimin(1), longer than it", false, "2 43 1", x -> x.occursInZimin(1));
        asked("occursInZimin(2), as long as it", true, "2 434 1", x -> x.occursInZimin(2));
        asked("occursInZimin(2), as long but other", false, "2 433 1", x -> x.occursInZimin(2));
        asked("occursInZimin(2), longer than it", false, "2 4340 1", x -> x.occursInZimin(2));
        asked("occursInZimin(4), as long as it", true, "2 141214131412141 1", x -> x.occursInZimin(4));
        asked("occursInZimin(4), as long but other", false, "2 141214131412144 1", x -> x.occursInZimin(4));
        asked("occursInZimin(3), longer than it", false, "2 14121413 1", x -> x.occursInZimin(3));
        asked("occursInZimin(4) at its end", true, "2 30102014 1", x -> x.occursInZimin(4));
    }

    private static void renaming() {
        promise = 8;
        does("canonicalize()", false, "/1", "2 - 1", x -> x.canonicalize());
        does("canonicalize()", false, "0/1", "2 0 1", x -> x.canonicalize());
        does("canonicalize()", true, "0/1", "2 4 1", x -> x.canonicalize());
        does("canonicalize()", true, "01234/1", "2 43210 1", x -> x.canonicalize());
        does("canonicalize()", false, FULL_PATTERN + "/1", "2 " + FULL_PATTERN + " 1", x -> x.canonicalize());
        does("canonicalize()", true, "000000000000001/1", "2 000000000000004 1", x -> x.canonicalize());
        promise = 9;
        does("reversePattern()", false, "/01", "2 - 01", x -> x.reversePattern());
        does("reversePattern()", false, "4/01", "2 4 01", x -> x.reversePattern());
        does("reversePattern()", true, "43/01", "2 34 01", x -> x.reversePattern());
        does("reversePattern()", true, "432104321043210/01", "2 " + FULL_PATTERN + " 01", x -> x.reversePattern());
        does("reversePattern()", false, "010201030102010/01", "2 010201030102010 01", x -> x.reversePattern());
    }

    private static void shelves() {
        promise = 11;
        range("shelve", INDEX, "2 44 1", 0, 3, (x, n) -> x.shelve(n));
        range("shelve", INDEX, "2 - 1", 0, 3, (x, n) -> x.shelve(n));
        for (int shelf = 0; shelf < 4; shelf++) {
            int s = shelf;
            does("shelve(" + s + ")", 15, FULL_PATTERN + "/1", "2 " + FULL_PATTERN + " 1", x -> x.shelve(s));
            does("shelve(" + s + ")", 0, "/1", "2 - 1", x -> x.shelve(s));
            PatternLaboratory x = furnished("2 31 1");
            x.shelve(s);
            x.clearPattern();
            due("useShelf(" + s + ") of what has come in place of another", 2, () -> x.useShelf(s));
            due("the pattern from shelf " + s, "31", () -> pattern(x));
        }
        promise = 12;
        range("useShelf", INDEX, "2 44 1", 0, 3, (x, n) -> x.useShelf(n));
        refused("useShelf(1), empty", STATE, "2 44 1", x -> x.useShelf(1));
        refused("useShelf(3), empty", STATE, "2 44 1", x -> x.useShelf(3));
        does("useShelf(0)", 4, "0121/1", "2 " + FULL_PATTERN + " 1", x -> x.useShelf(0));
        does("useShelf(2) with the empty pattern", 0, "/1", "2 " + FULL_PATTERN + " 1", x -> x.useShelf(2));
        promise = 13;
        range("isIsomorphic", INDEX, "2 44 1", 0, 3, (x, n) -> x.isIsomorphic(n));
        refused("isIsomorphic(1), empty", STATE, "2 44 1", x -> x.isIsomorphic(1));
        refused("isIsomorphic(3), empty", STATE, "2 - 1", x -> x.isIsomorphic(3));
        asked("isIsomorphic(2) with the empty pattern", true, "2 - 1", x -> x.isIsomorphic(2));
        asked("isIsomorphic(2) with the empty pattern", false, "2 4 1", x -> x.isIsomorphic(2));
        asked("isIsomorphic(0)", false, "2 - 1", x -> x.isIsomorphic(0));
        asked("isIsomorphic(0)", true, "2 4303 1", x -> x.isIsomorphic(0));
        asked("isIsomorphic(0), two names for one variable", false, "2 0123 1", x -> x.isIsomorphic(0));
        asked("isIsomorphic(0), one name for two variables", false, "2 0111 1", x -> x.isIsomorphic(0));
        asked("isIsomorphic(0), one longer", false, "2 01210 1", x -> x.isIsomorphic(0));
        asked("isIsomorphic(0), one shorter", false, "2 012 1", x -> x.isIsomorphic(0));
        promise = 14;
        range("contains", INDEX, "2 44 1", 0, 3, (x, n) -> x.contains(n));
        refused("contains(1), empty", STATE, "2 44 1", x -> x.contains(1));
        refusedFurnished("contains(2) with the empty pattern", STATE, "2 44 1", x -> x.contains(2));
        refusedFurnished("contains(2), both empty", STATE, "2 - 1", x -> x.contains(2));
        asked("contains(0)", false, "2 - 1", x -> x.contains(0));
        asked("contains(0), one shorter", false, "2 010 1", x -> x.contains(0));
        asked("contains(0), as long", true, "2 0000 1", x -> x.contains(0));
        asked("contains(0), at the end of 15", true, "2 012340123401033 1", x -> x.contains(0));
        asked("contains(0), 5 different ones", false, "2 01234 1", x -> x.contains(0));
    }

    // ---- the word

    private static void letters() {
        promise = 15;
        range("setLetterCount", ARGUMENT, "3 01 012 01,2,0", 2, 4, (x, n) -> x.setLetterCount(n));
        for (int letters = 2; letters <= 4; letters++) {
            int k = letters;
            does("setLetterCount(" + k + ")", 3, "01/", "3 01 012 01,2,0", x -> x.setLetterCount(k));
            PatternLaboratory x = bare("3 01 012 01,2,0");
            x.setLetterCount(k);
            due("the images", k == 2 ? "," : k == 3 ? ",," : ",,,", () -> morphism(x, k));
            promise = 16;
            does("appendLetter(k - 1)", 2, "01/0" + (k - 1), k + " 01 0", y -> y.appendLetter(k - 1));
            range("appendLetter", ARGUMENT, k + " 01 01", 0, k - 1, (y, n) -> y.appendLetter(n));
            promise = 15;
        }
        promise = 16;
        does("the 24th letter", 24, "/" + FULL, "2 - " + FULL.substring(0, 23), x -> x.appendLetter(1));
        refused("the 25th letter", STATE, "2 01 " + FULL, x -> x.appendLetter(0));
        range("appendLetter, full", ARGUMENT, "2 01 " + FULL, 0, 1, (x, n) -> x.appendLetter(n));
        promise = 17;
        does("clearWord()", 24, "01/", "2 01 " + FULL, x -> x.clearWord());
        does("clearWord()", 0, "01/", "2 01 -", x -> x.clearWord());
        promise = 18;
        asked("wordLength()", 0, "2 01 -", x -> x.wordLength());
        asked("wordLength()", 24, "2 01 " + FULL, x -> x.wordLength());
        promise = 19;
        asked("letter(0)", 0, "2 - " + FULL, x -> x.letter(0));
        asked("letter(23)", 1, "2 - " + FULL, x -> x.letter(23));
        range("letter", INDEX, "2 - " + FULL, 0, 23, (x, n) -> x.letter(n));
        range("letter", INDEX, "3 01234 012", 0, 2, (x, n) -> x.letter(n));
        range("letter", INDEX, "2 0123 -", 0, -1, (x, n) -> x.letter(n));
        PatternLaboratory cleared = bare("2 - 0110");
        cleared.clearWord();
        due("letter(0) of what was there before", INDEX, () -> cleared.letter(0));
    }

    private static void fractions() {
        promise = 20;
        range("density", ARGUMENT, "2 0 01", 0, 1, (x, n) -> x.density(n));
        range("density", ARGUMENT, "4 0 0123", 0, 3, (x, n) -> x.density(n));
        range("density, empty", ARGUMENT, "3 0 -", 0, 2, (x, n) -> x.density(n));
        refused("density(0)", ARITHMETIC, "2 0 -", x -> x.density(0));
        refused("density(1)", ARITHMETIC, "2 0 -", x -> x.density(1));
        asked("density(1)", 0f, "2 0 0", x -> x.density(1));
        asked("density(0)", 1f, "2 0 0", x -> x.density(0));
        asked("density(0)", 1f, "2 0 " + ZEROS, x -> x.density(0));
        asked("density(3)", 1f / 3f, "4 0 321", x -> x.density(3));
        promise = 21;
        double[] outside = {Math.nextUp(1.0), Math.nextDown(-1.0), 4, -4, Double.MAX_VALUE, -Double.MAX_VALUE,
            Double.POSITIVE_INFINITY, Double.NEGATIVE_INFINITY, Double.NaN};
        for (double factor : outside) {
            refused("discountedSum(" + factor + ")", ARGUMENT, "2 0 011", x -> x.discountedSum(factor));
            refused("discountedSum(" + factor + ")", ARGUMENT, "2 0 -", x -> x.discountedSum(factor));
        }
        asked("discountedSum(1)", 6.0, "4 0 0123", x -> x.discountedSum(1.0));
        asked("discountedSum(-1)", -2.0, "4 0 0123", x -> x.discountedSum(-1.0));
        asked("discountedSum(0)", 3.0, "4 0 3123", x -> x.discountedSum(0.0));
        asked("discountedSum(-0)", 3.0, "4 0 3123", x -> x.discountedSum(-0.0));
        asked("discountedSum(-1)", 0.0, "4 0 -", x -> x.discountedSum(-1.0));
        asked("discountedSum(-1)", 0.0, "4 0 " + ZEROS, x -> x.discountedSum(-1.0));
        asked("discountedSum(1)", 72.0, "4 0 " + ZEROS.replace('0', '3'), x -> x.discountedSum(1.0));
        asked("discountedSum(the smallest)", 3.0, "4 0 33", x -> x.discountedSum(Double.MIN_VALUE));
    }

    private static void exponents() {
        promise = 22;
        refused("greatestExponent()", STATE, "2 0 -", x -> x.greatestExponent());
        asked("greatestExponent()", 1.0, "2 0 1", x -> x.greatestExponent());
        asked("greatestExponent()", 1.0, "4 0 0123", x -> x.greatestExponent());
        asked("greatestExponent()", 24.0, "4 0 " + ZEROS, x -> x.greatestExponent());
        asked("greatestExponent()", 4.0 / 3.0, "4 0 0120", x -> x.greatestExponent());
        promise = 23;
        range("strongestFactor", ARGUMENT, "2 0 01", 0, 2, (x, n) -> x.strongestFactor(n));
        range("strongestFactor, empty", ARGUMENT, "2 0 -", 0, 2, (x, n) -> x.strongestFactor(n));
        for (int what = 0; what <= 2; what++) {
            int w = what;
            refused("strongestFactor(" + w + ")", STATE, "2 0 -", x -> x.strongestFactor(w));
        }
        strongest("2 0 1", 0, 1, 1);
        strongest("4 0 0123", 0, 1, 1);
        strongest("4 0 " + ZEROS, 0, 24, 1);
        strongest("4 0 01233", 3, 2, 1);
        strongest("4 0 00122", 0, 2, 1);
        strongest("4 0 01012323", 0, 4, 2);
        strongest("4 0 0012012", 0, 2, 1);
        strongest("4 0 01233012330", 0, 11, 5);
        strongest("4 0 0101001", 0, 5, 2);
        PatternLaboratory twice = bare("4 0 0122");
        due("strongestFactor(0) of 0122", 2, () -> twice.strongestFactor(0));
        prepare(twice, "4 0 0123");
        due("strongestFactor(0) of 0123 after that", 0, () -> twice.strongestFactor(0));
    }

    private static void strongest(String text, int start, int length, int period) {
        asked("strongestFactor(0)", start, text, x -> x.strongestFactor(0));
        asked("strongestFactor(1)", length, text, x -> x.strongestFactor(1));
        asked("strongestFactor(2)", period, text, x -> x.strongestFactor(2));
    }

    // ---- occurrences

    private static void occurrences() {
        promise = 24;
        refused("avoids()", STATE, "2 - 01", x -> x.avoids());
        refused("avoids()", STATE, "2 - -", x -> x.avoids());
        asked("avoids()", true, "2 0 -", x -> x.avoids());
        asked("avoids()", false, "2 4 1", x -> x.avoids());
        asked("avoids(), one shorter", true, "2 0123 000", x -> x.avoids());
        asked("avoids(), as long", false, "2 0123 0000", x -> x.avoids());
        asked("avoids(), 15 in 24", false, "2 000000000000000 " + ZEROS, x -> x.avoids());
        asked("avoids(), 15 in 14", true, "2 000000000000000 " + ZEROS.substring(10), x -> x.avoids());
        asked("avoids(), at the end", false, "4 00 0123012033", x -> x.avoids());
        promise = 28;
        refused("occurrenceCount()", STATE, "2 - 01", x -> x.occurrenceCount());
        refused("occurrenceCount()", STATE, "2 - -", x -> x.occurrenceCount());
        asked("occurrenceCount()", 0, "2 0 -", x -> x.occurrenceCount());
        asked("occurrenceCount()", 1, "2 0 1", x -> x.occurrenceCount());
        asked("occurrenceCount(), one shorter", 0, "2 0123 000", x -> x.occurrenceCount());
        asked("occurrenceCount(), as long", 1, "2 0123 0000", x -> x.occurrenceCount());
        asked("occurrenceCount()", 300, "2 0 " + FULL, x -> x.occurrenceCount());
        asked("occurrenceCount()", 177100, "2 43210 " + FULL, x -> x.occurrenceCount());
        asked("occurrenceCount()", 10, "2 000000000000000 " + ZEROS, x -> x.occurrenceCount());
        PatternLaboratory counted = bare("2 00 0000");
        counted.findOccurrence();
        due("occurrenceCount() counts all after one was found", 4, counted::occurrenceCount);
    }

    private static void finding() {
        promise = 25;
        refused("findOccurrence()", STATE, "2 - 01", x -> x.findOccurrence());
        refused("findOccurrence()", STATE, "2 - -", x -> x.findOccurrence());
        refused("findOccurrence()", NONE, "2 0 -", x -> x.findOccurrence());
        refused("findOccurrence(), one shorter", NONE, "2 010 00", x -> x.findOccurrence());
        refused("findOccurrence()", NONE, "3 00 0102", x -> x.findOccurrence());
        refused("findOccurrence()", NONE, "2 000 " + FULL, x -> x.findOccurrence());
        found("2 0 1", 0, "1,,,,");
        found("2 0110 0110", 0, "0,1,,,");
        found("4 44 01233", 3, ",,,,3");
        found("2 01 000", 0, "0,0,,,");
        found("2 101 0011100", 0, "0111,0,,,");
        found("4 011 " + SQUARE_FREE + "33", 0, SQUARE_FREE + ",3,,,");
        found("4 00 012301230123012301230123", 0, "0123,,,,");
        found("2 000000000000000 " + ZEROS, 0, "0,,,,");
    }

    private static void found(String text, int start, String images) {
        PatternLaboratory x = furnished(text);
        due("findOccurrence() of " + text, start, x::findOccurrence);
        for (int variable = 0; variable < 5; variable++) {
            int v = variable;
            due("image " + v + " of " + text, images.split(",", -1)[v], () -> image(x, v));
        }
    }

    private static void remembering() {
        promise = 26;
        range("imageLength", ARGUMENT, "2 01 01", 0, 4, (x, n) -> x.imageLength(n));
        refusedBare("imageLength(0), none remembered", STATE, "2 0 0", x -> x.imageLength(0));
        refusedBare("imageLength(4), none remembered", STATE, "2 4 0", x -> x.imageLength(4));
        asked("imageLength(0), not in the pattern then", 0, "2 01 01", x -> x.imageLength(0));
        asked("imageLength(4), not in the pattern then", 0, "2 4 0", x -> x.imageLength(4));
        asked("imageLength(1)", 2, "2 - -", x -> x.imageLength(1));
        asked("imageLength(3)", 1, "2 - -", x -> x.imageLength(3));
        promise = 27;
        range("imageLetter", ARGUMENT, "2 01 01", 0, 4, (x, n) -> x.imageLetter(n, 0));
        range("imageLetter, no position", ARGUMENT, "2 01 01", 0, 4, (x, n) -> x.imageLetter(n, -1));
        refusedBare("imageLetter(0, 0), none remembered", STATE, "2 0 0", x -> x.imageLetter(0, 0));
        refusedBare("imageLetter(0, -1), none remembered", STATE, "2 0 0", x -> x.imageLetter(0, -1));
        refusedBare("imageLetter(4, 24), none remembered", STATE, "2 0 0", x -> x.imageLetter(4, 24));
        asked("imageLetter(1, 0)", 2, "2 - -", x -> x.imageLetter(1, 0));
        asked("imageLetter(1, 1)", 1, "2 - -", x -> x.imageLetter(1, 1));
        int[][] outside = {{1, 2}, {1, -1}, {1, MIN}, {1, MAX}, {3, 1}, {3, -1}, {0, 0}, {0, -1}, {2, 0}, {4, 0},
            {4, MAX}};
        for (int[] pair : outside) {
            refusedFurnished("imageLetter(" + pair[0] + ", " + pair[1] + ")", INDEX, "2 01 0110",
                    x -> x.imageLetter(pair[0], pair[1]));
        }
        PatternLaboratory far = bare("4 011 " + SQUARE_FREE + "33");
        far.findOccurrence();
        due("imageLetter(0, 21)", 2, () -> far.imageLetter(0, 21));
        due("imageLetter(0, 22)", INDEX, () -> far.imageLetter(0, 22));
    }

    // ---- free sets and reductions

    private static void sides() {
        promise = 29;
        range("areConnected(n, 0)", ARGUMENT, "2 01234 1", 0, 4, (x, n) -> x.areConnected(n, 0));
        range("areConnected(0, n)", ARGUMENT, "2 01234 1", 0, 4, (x, n) -> x.areConnected(0, n));
        range("areConnected(n, n)", ARGUMENT, "2 3 1", 3, 3, (x, n) -> x.areConnected(n, n));
        range("areConnected(n, n)", ARGUMENT, "2 - 1", 0, -1, (x, n) -> x.areConnected(n, n));
        refused("areConnected(0, 0)", ARGUMENT, "2 - 1", x -> x.areConnected(0, 0));
        // A shift by 32 or by -32 is one by 0.
        refused("areConnected(32, 0)", ARGUMENT, "2 00 1", x -> x.areConnected(32, 0));
        refused("areConnected(0, 32)", ARGUMENT, "2 00 1", x -> x.areConnected(0, 32));
        refused("areConnected(-32, -32)", ARGUMENT, "2 00 1", x -> x.areConnected(-32, -32));
        asked("areConnected(0, 0) of one variable", false, "2 0 1", x -> x.areConnected(0, 0));
        asked("areConnected(4, 4), linked to itself", true, "2 44 1", x -> x.areConnected(4, 4));
        asked("areConnected(3, 4)", true, "2 34 1", x -> x.areConnected(3, 4));
        asked("areConnected(4, 3)", false, "2 34 1", x -> x.areConnected(4, 3));
        for (int shift = 0; shift < 5; shift++) {
            int first = shift;
            int last = (shift + 3) % 5;
            String chain = "2 " + renamed("012123", shift) + " 1";
            asked("areConnected(" + first + ", " + last + "), over two more sides", true, chain,
                    x -> x.areConnected(first, last));
            asked("areConnected(" + last + ", " + first + ")", false, chain, x -> x.areConnected(last, first));
        }
        asked("areConnected(4, 1), the longest chain", true, "2 010212323434 1", x -> x.areConnected(4, 1));
        promise = 30;
        int[] sets = {0, 4, 5, 7, 8, 16, 32, 33, 35, -1, MIN, MIN + 1, MAX};
        for (int set : sets) {
            refused("isFree(" + set + ")", ARGUMENT, "2 010 1", x -> x.isFree(set));
            refused("isFree(" + set + ")", ARGUMENT, "2 - 1", x -> x.isFree(set));
        }
        int[] beyond = {0, 32, 63, -1, MIN, MIN + 31, MAX};
        for (int set : beyond) {
            refused("isFree(" + set + ")", ARGUMENT, "2 " + FULL_PATTERN + " 1", x -> x.isFree(set));
        }
        asked("isFree(1)", true, "2 0 1", x -> x.isFree(1));
        asked("isFree(16)", true, "2 4 1", x -> x.isFree(16));
        asked("isFree(1), the same one included", false, "2 00 1", x -> x.isFree(1));
        asked("isFree(31)", false, "2 " + FULL_PATTERN + " 1", x -> x.isFree(31));
        asked("isFree(3)", false, "2 01 1", x -> x.isFree(3));
        asked("isFree(5)", true, "2 012 1", x -> x.isFree(5));
        promise = 31;
        asked("freeSetCount()", 0, "2 - 1", x -> x.freeSetCount());
        asked("freeSetCount()", 0, "2 000000000000000 1", x -> x.freeSetCount());
        asked("freeSetCount()", 1, "2 4 1", x -> x.freeSetCount());
        asked("freeSetCount()", 12, "2 01234 1", x -> x.freeSetCount());
        promise = 32;
        range("freeSet", INDEX, "2 - 1", 0, -1, (x, n) -> x.freeSet(n));
        range("freeSet", INDEX, "2 00 1", 0, -1, (x, n) -> x.freeSet(n));
        range("freeSet", INDEX, "2 4 1", 0, 0, (x, n) -> x.freeSet(n));
        range("freeSet", INDEX, "2 01234 1", 0, 11, (x, n) -> x.freeSet(n));
        asked("freeSet(0)", 16, "2 4 1", x -> x.freeSet(0));
        asked("freeSet(0)", 1, "2 01234 1", x -> x.freeSet(0));
        asked("freeSet(11)", 21, "2 01234 1", x -> x.freeSet(11));
    }

    private static String renamed(String pattern, int shift) {
        StringBuilder text = new StringBuilder();
        for (char c : pattern.toCharArray()) {
            text.append((c - '0' + shift) % 5);
        }
        return text.toString();
    }

    private static void deleting() {
        promise = 33;
        int[] sets = {0, 4, 5, 7, 8, 16, 32, 33, -1, MIN, MIN + 1, MAX};
        for (int set : sets) {
            refused("delete(" + set + ")", ARGUMENT, "2 010 1", x -> x.delete(set));
            refused("delete(" + set + ")", ARGUMENT, "2 - 1", x -> x.delete(set));
        }
        refused("delete(3), neither free nor in the pattern", ARGUMENT, "2 00 1", x -> x.delete(3));
        refused("delete(1)", STATE, "2 00 1", x -> x.delete(1));
        refused("delete(3)", STATE, "2 010 1", x -> x.delete(3));
        refused("delete(31)", STATE, "2 " + FULL_PATTERN + " 1", x -> x.delete(31));
        does("delete(16)", 0, "/1", "2 4 1", x -> x.delete(16));
        does("delete(2)", 2, "00/1", "2 010 1", x -> x.delete(2));
        does("delete(1)", 7, "1213121/1", "2 010201030102010 1", x -> x.delete(1));
        promise = 34;
        asked("isUnavoidable()", true, "2 - 1", x -> x.isUnavoidable());
        asked("isUnavoidable()", true, "2 4 1", x -> x.isUnavoidable());
        asked("isUnavoidable()", false, "2 44 1", x -> x.isUnavoidable());
        asked("isUnavoidable()", true, "2 010201030102010 1", x -> x.isUnavoidable());
        asked("isUnavoidable()", false, "2 010201030102011 1", x -> x.isUnavoidable());
        promise = 35;
        refused("reductionLength()", NONE, "2 00 1", x -> x.reductionLength());
        refused("reductionLength()", NONE, "2 " + FULL_PATTERN + " 1", x -> x.reductionLength());
        asked("reductionLength()", 0, "2 - 1", x -> x.reductionLength());
        asked("reductionLength()", 1, "2 4 1", x -> x.reductionLength());
        asked("reductionLength()", 4, "2 010201030102010 1", x -> x.reductionLength());
        asked("reductionLength(), a set for each variable", 5, "2 40301321 1", x -> x.reductionLength());
        promise = 36;
        range("reductionSet", NONE, "2 00 1", 0, 0, (x, n) -> x.reductionSet(n));
        refused("reductionSet(0)", NONE, "2 00 1", x -> x.reductionSet(0));
        range("reductionSet", INDEX, "2 - 1", 0, -1, (x, n) -> x.reductionSet(n));
        range("reductionSet", INDEX, "2 4 1", 0, 0, (x, n) -> x.reductionSet(n));
        range("reductionSet", INDEX, "2 010201030102010 1", 0, 3, (x, n) -> x.reductionSet(n));
        asked("reductionSet(0)", 16, "2 4 1", x -> x.reductionSet(0));
        asked("reductionSet(0)", 1, "2 010201030102010 1", x -> x.reductionSet(0));
        asked("reductionSet(3)", 8, "2 010201030102010 1", x -> x.reductionSet(3));
        range("reductionSet", INDEX, "2 40301321 1", 0, 4, (x, n) -> x.reductionSet(n));
        asked("reductionSet(4)", 16, "2 40301321 1", x -> x.reductionSet(4));
    }

    // ---- searches

    private static void extending() {
        promise = 37;
        range("extend", ARGUMENT, "2 00 01", 2, 24, (x, n) -> x.extend(n));
        range("extend", ARGUMENT, "2 00 -", 0, 24, (x, n) -> x.extend(n));
        range("extend, no pattern", ARGUMENT, "2 - 01", 2, 24, (x, n) -> x.extend(n));
        range("extend, not avoiding", ARGUMENT, "2 00 00", 2, 24, (x, n) -> x.extend(n));
        range("extend, full", ARGUMENT, "2 000 " + FULL, 24, 24, (x, n) -> x.extend(n));
        refused("extend(2)", STATE, "2 - 01", x -> x.extend(2));
        refused("extend(24)", STATE, "2 - -", x -> x.extend(24));
        refused("extend(2), not avoiding", NONE, "2 00 00", x -> x.extend(2));
        refused("extend(24), not avoiding", NONE, "2 00 00", x -> x.extend(24));
        refused("extend(24), full and not avoiding", NONE, "2 000 " + ZEROS, x -> x.extend(24));
        refused("extend(1)", NONE, "2 0 -", x -> x.extend(1));
        refused("extend(4)", NONE, "2 00 010", x -> x.extend(4));
        does("extend(0)", 0, "0/", "2 0 -", x -> x.extend(0));
        does("extend(3)", 0, "00/010", "2 00 010", x -> x.extend(3));
        does("extend(24), full", 0, "000/" + FULL, "2 000 " + FULL, x -> x.extend(24));
        does("extend(24)", 2, "000/" + FULL, "2 000 " + FULL.substring(0, 23), x -> x.extend(24));
        does("extend(24), one letter is refused", 25, "000000000000000/000000000000001000000000",
                "2 000000000000000 -", x -> x.extend(24));
        PatternLaboratory longest = bare("2 01012131 -");
        due("extend(24) with 1500 trials", 1500, () -> longest.extend(24));
        due("the length after that", 24, longest::wordLength);
        refused("extend(23) with 1501 trials", UNSUPPORTED, "2 00010203 -", x -> x.extend(23));
        refused("extend(24) that ends after 1500 trials", NONE, "2 011022 00", x -> x.extend(24));
        refused("extend(24) that would end after 1502 trials", UNSUPPORTED, "2 0012332 0", x -> x.extend(24));
        promise = 38;
        range("longestAvoiding", ARGUMENT, "2 00 01", 1, 20, (x, n) -> x.longestAvoiding(n));
        range("longestAvoiding, no pattern", ARGUMENT, "2 - 01", 1, 20, (x, n) -> x.longestAvoiding(n));
        refused("longestAvoiding(1)", STATE, "2 - 01", x -> x.longestAvoiding(1));
        refused("longestAvoiding(20)", STATE, "2 - -", x -> x.longestAvoiding(20));
        asked("longestAvoiding(1)", 0, "2 0 01", x -> x.longestAvoiding(1));
        asked("longestAvoiding(20)", 0, "2 0 01", x -> x.longestAvoiding(20));
        asked("longestAvoiding(1)", 1, "2 00 " + ZEROS, x -> x.longestAvoiding(1));
        asked("longestAvoiding(3), the limit", 3, "2 00 " + ZEROS, x -> x.longestAvoiding(3));
        asked("longestAvoiding(4), over the longest", 3, "2 00 " + ZEROS, x -> x.longestAvoiding(4));
        asked("longestAvoiding(20)", 20, "2 000 -", x -> x.longestAvoiding(20));
        asked("longestAvoiding(20), 1500 trials", 20, "2 001223414 -", x -> x.longestAvoiding(20));
        asked("longestAvoiding(19), 1500 trials", 19, "2 01021134 -", x -> x.longestAvoiding(19));
        refused("longestAvoiding(20), more trials", UNSUPPORTED, "2 01021134 -", x -> x.longestAvoiding(20));
        asked("longestAvoiding(20), ends after 1470 trials", 12, "2 0010234 -", x -> x.longestAvoiding(20));
        refused("longestAvoiding(20), 1502 trials", UNSUPPORTED, "2 0110234 -", x -> x.longestAvoiding(20));
        asked("longestAvoiding(13), ends earlier", 13, "2 0110234 -", x -> x.longestAvoiding(13));
    }

    private static void counting() {
        promise = 39;
        range("countAvoiding", ARGUMENT, "2 00 01", 0, 10, (x, n) -> x.countAvoiding(n));
        range("countAvoiding, no pattern", ARGUMENT, "2 - 01", 0, 10, (x, n) -> x.countAvoiding(n));
        refused("countAvoiding(0)", STATE, "2 - 01", x -> x.countAvoiding(0));
        refused("countAvoiding(10)", STATE, "2 - -", x -> x.countAvoiding(10));
        asked("countAvoiding(0)", 1, "2 0 01", x -> x.countAvoiding(0));
        asked("countAvoiding(1)", 0, "2 0 01", x -> x.countAvoiding(1));
        asked("countAvoiding(10)", 0, "2 0 01", x -> x.countAvoiding(10));
        asked("countAvoiding(10)", 0, "2 00 " + ZEROS, x -> x.countAvoiding(10));
        asked("countAvoiding(10)", 118, "2 000 -", x -> x.countAvoiding(10));
        // All letters are alike here: the trials are k, and a multiple of k * k. So none of these searches needs just
        // 1500 or 1501 trials, and those with 1498 or less and 1502 or more are the nearest.
        asked("countAvoiding(7), 1497 trials", 162, "3 01023 -", x -> x.countAvoiding(7));
        refused("countAvoiding(10), 1502 trials", UNSUPPORTED, "2 0001023 -", x -> x.countAvoiding(10));
        asked("countAvoiding(5), 1364 trials", 1024, "4 " + FULL_PATTERN + " -", x -> x.countAvoiding(5));
        refused("countAvoiding(6)", UNSUPPORTED, "4 " + FULL_PATTERN + " -", x -> x.countAvoiding(6));
        promise = 40;
        range("growth", ARGUMENT, "2 00 01", 1, 10, (x, n) -> x.growth(n));
        range("growth, no pattern", ARGUMENT, "2 - 01", 1, 10, (x, n) -> x.growth(n));
        refused("growth(1)", STATE, "2 - 01", x -> x.growth(1));
        refused("growth(10)", STATE, "2 - -", x -> x.growth(10));
        asked("growth(1)", 4.0, "4 00 -", x -> x.growth(1));
        asked("growth(1), no word", 0.0, "2 0 01", x -> x.growth(1));
        refused("growth(2), no word of the length minus 1", ARITHMETIC, "2 0 01", x -> x.growth(2));
        refused("growth(10), no word of the length minus 1", ARITHMETIC, "2 0 01", x -> x.growth(10));
        asked("growth(7), the first length without words", 0.0, "3 010 -", x -> x.growth(7));
        refused("growth(8)", ARITHMETIC, "3 010 -", x -> x.growth(8));
        asked("growth(10)", 118.0 / 80.0, "2 000 -", x -> x.growth(10));
        refused("growth(10), the longer one is given up", UNSUPPORTED, "2 0001023 -", x -> x.growth(10));
        refused("growth(8), both are given up", UNSUPPORTED, "4 " + FULL_PATTERN + " -", x -> x.growth(8));
        refused("growth(10), given up and without words", UNSUPPORTED, "4 010 -", x -> x.growth(10));
    }

    // ---- the morphism

    private static void images() {
        promise = 41;
        for (int letters = 2; letters <= 4; letters++) {
            String text = letters + " 01 01 0,0101";
            range("appendImage(n, 0)", ARGUMENT, text, 0, letters - 1, (x, n) -> x.appendImage(n, 0));
            range("appendImage(0, n)", ARGUMENT, text, 0, letters - 1, (x, n) -> x.appendImage(0, n));
            range("appendImage(1, n), full", ARGUMENT, text, 0, letters - 1, (x, n) -> x.appendImage(1, n));
            refused("appendImage(1, 0), full", STATE, text, x -> x.appendImage(1, 0));
            int last = letters - 1;
            due("appendImage(k - 1, k - 1)", 1, () -> bare((last + 1) + " 0 0").appendImage(last, last));
        }
        due("appendImage to the fourth letter", 4, () -> bare("2 0 0 000,1").appendImage(0, 1));
        promise = 42;
        range("clearImage", ARGUMENT, "2 01 01 0,0101", 0, 1, (x, n) -> x.clearImage(n));
        range("clearImage", ARGUMENT, "4 01 01 0,0101,2,3", 0, 3, (x, n) -> x.clearImage(n));
        due("clearImage(1), full", 4, () -> bare("2 01 01 0,0101").clearImage(1));
        due("clearImage(0), empty", 0, () -> bare("2 01 01 ,0101").clearImage(0));
        promise = 43;
        does("applyMorphism()", 0, "01/", "2 01 - 0,1", x -> x.applyMorphism());
        does("applyMorphism(), empty images", 0, "01/", "2 01 " + FULL, x -> x.applyMorphism());
        does("applyMorphism() to 24", 24, "01/" + ZEROS, "2 01 000000 0000,1", x -> x.applyMorphism());
        does("applyMorphism() of 24", 24, "01/" + ZEROS, "2 01 " + FULL + " 0,0", x -> x.applyMorphism());
        refused("applyMorphism() to 25", STATE, "2 01 0000001 0000,1", x -> x.applyMorphism());
        refused("applyMorphism() to 25, the other end", STATE, "2 01 1000000 0000,1", x -> x.applyMorphism());
        refused("applyMorphism() to 96", STATE, "2 01 " + FULL + " 0000,1111", x -> x.applyMorphism());
        does("applyMorphism() of 24 to 23", 23, "01/" + ZEROS.substring(1), "2 01 1" + ZEROS.substring(1) + " 0,",
                x -> x.applyMorphism());
    }

    private static void iterating() {
        promise = 44;
        range("iterate(n, 0)", ARGUMENT, "2 0 01 0,1", 0, 1, (x, n) -> x.iterate(n, 0));
        range("iterate(0, n)", ARGUMENT, "2 0 01 0,1", 0, 10, (x, n) -> x.iterate(0, n));
        range("iterate(n, 11)", ARGUMENT, "4 0 01 0,1", 0, 3, (x, n) -> x.iterate(n, 11));
        does("iterate(1, 0)", 1, "0/1", "2 0 " + FULL + " 0,", x -> x.iterate(1, 0));
        does("iterate(1, 0), empty images", 1, "0/1", "2 0 -", x -> x.iterate(1, 0));
        does("iterate(1, 1), empty images", 0, "0/", "2 0 01", x -> x.iterate(1, 1));
        does("iterate(1, 10), empty images", 0, "0/", "2 0 01", x -> x.iterate(1, 10));
        does("iterate(0, 10)", 1, "0/0", "2 0 11 1,0", x -> x.iterate(0, 10));
        does("iterate(0, 9)", 1, "0/1", "2 0 11 1,0", x -> x.iterate(0, 9));
        String grows = "4 0 01 111,2222,33,";
        does("iterate(0, 3), 24 letters", 24, "0/" + ZEROS.replace('0', '3'), grows, x -> x.iterate(0, 3));
        does("iterate(0, 4), 24 letters on the way", 0, "0/", grows, x -> x.iterate(0, 4));
        refused("iterate(0, 3), 25 letters", STATE, "4 0 01 1113,2222,33,3", x -> x.iterate(0, 3));
        does("iterate(0, 2), 13 letters", 13, "0/2222222222223", "4 0 01 1113,2222,33,3", x -> x.iterate(0, 2));
        refused("iterate(0, 4), 64 letters on the way", STATE, "4 0 01 1111,2222,3333,", x -> x.iterate(0, 4));
        refused("iterate(0, 10), 4 to the 10th", STATE, "2 0 01 0000,", x -> x.iterate(0, 10));
    }

    private static void findingMorphisms() {
        promise = 45;
        String text = "3 00 01 0,1,2";
        range("findMorphism(n, 1)", ARGUMENT, text, 1, 3, (x, n) -> x.findMorphism(n, 1));
        range("findMorphism(1, n)", ARGUMENT, text, 1, 2, (x, n) -> x.findMorphism(1, n));
        range("findMorphism(n, 1), no pattern", ARGUMENT, "3 - 01 0,1,2", 1, 3, (x, n) -> x.findMorphism(n, 1));
        range("findMorphism(1, n), no pattern", ARGUMENT, "3 - 01 0,1,2", 1, 2, (x, n) -> x.findMorphism(1, n));
        refused("findMorphism(1, 1)", STATE, "3 - 01 0,1,2", x -> x.findMorphism(1, 1));
        refused("findMorphism(3, 2)", STATE, "3 - - 0,1,2", x -> x.findMorphism(3, 2));
        refused("findMorphism(2, 1), none of 16", NONE, "2 01 01 01,10", x -> x.findMorphism(2, 1));
        refused("findMorphism(3, 2), none of 64", NONE, "2 00 01 01,10", x -> x.findMorphism(3, 2));
        // A pattern of more than 6 variables occurs in no image of 2 letters, so that the first morphism will do; all
        // shorter ones were tried: the number of the first suitable morphism is at most 92, or at least 758.
        refused("findMorphism(3, 1), the 758th", UNSUPPORTED, "3 000 01 0,1,2", x -> x.findMorphism(3, 1));
        refused("findMorphism(2, 1), none of 729", UNSUPPORTED, "3 01 01 0,1,2", x -> x.findMorphism(2, 1));
        refused("findMorphism(3, 2), many", UNSUPPORTED, "4 00 01 0,1,2,3", x -> x.findMorphism(3, 2));
        finds("3 00 01 2,2,2", 2, 1, 92, "01,01,01");
        finds("4 00 01 2,2,2", 1, 2, 28, "0,1,2,3");
        finds("2 01001 01 0,1", 3, 2, 28, "011,011");
        finds("2 " + FULL_PATTERN + " 01 0111,1", 3, 2, 1, "000,000");
        finds("4 0 - 0123,1,,2", 1, 1, 1, "0,0,0,0");
    }

    private static void finds(String text, int imageLength, int testLength, int number, String images) {
        PatternLaboratory x = furnished(text);
        String what = "findMorphism(" + imageLength + ", " + testLength + ") of " + text;
        String before = pattern(x) + "/" + word(x);
        due(what, number, () -> x.findMorphism(imageLength, testLength));
        compare("pattern and word after " + what, before, pattern(x) + "/" + word(x));
        due("countSpoiled after " + what, 0, () -> x.countSpoiled(testLength));
        due("the morphism after " + what, images, () -> morphism(x, text.charAt(0) - '0'));
    }

    private static void spoiling() {
        promise = 46;
        range("countSpoiled", ARGUMENT, "2 00 01 0,1", 0, 5, (x, n) -> x.countSpoiled(n));
        range("countSpoiled, no pattern", ARGUMENT, "2 - 01 0,1", 0, 5, (x, n) -> x.countSpoiled(n));
        refused("countSpoiled(0)", STATE, "2 - 01 0,1", x -> x.countSpoiled(0));
        refused("countSpoiled(5)", STATE, "2 - - 0,1", x -> x.countSpoiled(5));
        asked("countSpoiled(0)", 0, "2 0 01 0,1", x -> x.countSpoiled(0));
        asked("countSpoiled(1), no word avoids", 0, "2 0 01 0,1", x -> x.countSpoiled(1));
        asked("countSpoiled(5), empty images", 0, "2 000 01 ,", x -> x.countSpoiled(5));
        asked("countSpoiled(1), one image empty", 1, "2 00 01 00,", x -> x.countSpoiled(1));
        asked("countSpoiled(5), the most trials", 1024, "4 " + FULL_PATTERN + " - 0000,0000,0000,0000",
                x -> x.countSpoiled(5));
        asked("countSpoiled(5), as long as the pattern", 4, "4 " + FULL_PATTERN + " - 000,111,222,333",
                x -> x.countSpoiled(5));
        asked("countSpoiled(5), all others one letter too short", 1, "2 000000000000000 - 000,00",
                x -> x.countSpoiled(5));
        asked("countSpoiled(3), shorter than the pattern", 0, "4 000000000000000 - 0000,0000,0000,0000",
                x -> x.countSpoiled(3));
    }

    // ---- the snapshot

    private static void snapshots() {
        promise = 47;
        due("save() of a new object", 0, () -> new PatternLaboratory().save());
        does("save()", 24, FULL_PATTERN + "/" + FULL, "2 " + FULL_PATTERN + " " + FULL, x -> x.save());
        promise = 48;
        refusedBare("restore(), nothing saved", STATE, "3 012 012 01,2,0", x -> x.restore());
        due("restore() of a new object", STATE, () -> new PatternLaboratory().restore());
        does("restore()", 4, "313/0210", "2 " + FULL_PATTERN + " " + FULL, x -> x.restore());
        PatternLaboratory x = new PatternLaboratory();
        x.save();
        prepare(x, "4 " + FULL_PATTERN + " 0123 0000,1111,2222,3333");
        due("restore() of what a new object saved", 0, x::restore);
        due("all is as in the new object", "//0:/0:/" + ARGUMENT + "/" + ARGUMENT, () -> desk(x));
        due("restore(), it stays saved", 0, x::restore);
        prepare(x, "4 " + FULL_PATTERN + " 0123 0000,1111,2222,3333");
        due("save() in place of what was saved", 4, x::save);
        x.setLetterCount(2);
        x.clearPattern();
        due("restore() of what was saved last", 4, x::restore);
        due("all is as it was then", FULL_PATTERN + "/0123/4:0000/4:1111/4:2222/4:3333", () -> desk(x));
        PatternLaboratory shelved = furnished("2 0 0");
        shelved.restore();
        due("the shelves stay", 4, () -> shelved.useShelf(0));
        due("the remembered occurrence stays", 2, () -> shelved.imageLength(1));
    }

    /** An object has to last for 512 calls. */
    private static void lastCalls() {
        promise = 1;
        PatternLaboratory x = new PatternLaboratory();
        for (int i = 0; i < 127; i++) {
            x.appendVariable(i % 5);
            x.appendLetter(i % 2);
            x.clearPattern();
            x.clearWord();
        }
        x.appendVariable(3);
        x.appendLetter(1);
        due("the 511th call", 0, x::findOccurrence);
        due("the 512th call", 1, () -> x.imageLetter(3, 0));
    }

    private static void tally() {
        for (int p = 2; p <= 48; p++) {
            String start = p + " ";
            promise = p;
            compare("the kinds of exceptions that were seen", EXCEPTIONS[p - 2],
                    (int) refusals.stream().filter(r -> r.startsWith(start)).count());
        }
    }

    public static void main(String[] args) {
        newObject();
        appending();
        ziminWords();
        renaming();
        shelves();
        letters();
        fractions();
        exponents();
        occurrences();
        finding();
        remembering();
        sides();
        deleting();
        extending();
        counting();
        images();
        iterating();
        findingMorphisms();
        spoiling();
        snapshots();
        lastCalls();
        tally();
        end("all boundaries hold");
    }
}
