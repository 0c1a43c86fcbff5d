import java.util.NoSuchElementException;

/** Every promise of the document by its number: ordinary inputs, the edges, and wrong inputs. */
public final class PromiseTest extends Bench {
    private static String freeSets(PatternLaboratory x) {
        StringBuilder text = new StringBuilder();
        for (int i = 0; i < x.freeSetCount(); i++) {
            text.append(i == 0 ? "" : ",").append(x.freeSet(i));
        }
        return text.toString();
    }

    private static String reduction(PatternLaboratory x) {
        StringBuilder text = new StringBuilder();
        for (int i = 0; i < x.reductionLength(); i++) {
            text.append(i == 0 ? "" : ",").append(x.reductionSet(i));
        }
        return text.toString();
    }

    private static void newObject() {
        promise = 1;
        PatternLaboratory x = new PatternLaboratory();
        due("patternLength()", 0, x::patternLength);
        due("wordLength()", 0, x::wordLength);
        due("appendLetter(2)", ARGUMENT, () -> x.appendLetter(2));
        due("setLetterCount(2)", 2, () -> x.setLetterCount(2));
        due("morphism", ",", () -> morphism(x, 2));
        due("useShelf(0)", STATE, () -> x.useShelf(0));
        due("useShelf(3)", STATE, () -> x.useShelf(3));
        due("imageLength(0)", STATE, () -> x.imageLength(0));
        due("restore()", STATE, x::restore);
    }

    private static void thePattern() {
        promise = 2;
        PatternLaboratory x = new PatternLaboratory();
        due("appendVariable(-1)", ARGUMENT, () -> x.appendVariable(-1));
        due("appendVariable(5)", ARGUMENT, () -> x.appendVariable(5));
        for (int i = 0; i < 15; i++) {
            int variable = i % 5;
            due("appendVariable(" + variable + ")", i + 1, () -> x.appendVariable(variable));
        }
        due("appendVariable(0) when full", STATE, () -> x.appendVariable(0));
        due("appendVariable(5) when full", ARGUMENT, () -> x.appendVariable(5));
        due("pattern", "012340123401234", () -> pattern(x));
        promise = 3;
        due("clearPattern()", 15, x::clearPattern);
        due("clearPattern() again", 0, x::clearPattern);
        promise = 4;
        due("patternLength()", 0, x::patternLength);
        due("appendVariable(4)", 1, () -> x.appendVariable(4));
        due("patternLength()", 1, x::patternLength);
        promise = 5;
        due("patternVariable(0)", 4, () -> x.patternVariable(0));
        due("patternVariable(1)", INDEX, () -> x.patternVariable(1));
        due("patternVariable(-1)", INDEX, () -> x.patternVariable(-1));
        due("patternVariable(MIN)", INDEX, () -> x.patternVariable(Integer.MIN_VALUE));
        due("patternVariable(MAX)", INDEX, () -> x.patternVariable(Integer.MAX_VALUE));
        promise = 6;
        due("variables()", 16, x::variables);
        due("variables() of nothing", 0, () -> make("", "").variables());
        due("variables() of 1313", 10, () -> make("1313", "").variables());
        due("variables() of 43210", 31, () -> make("43210", "").variables());
    }

    private static void zimin() {
        promise = 7;
        PatternLaboratory x = make("44", "01");
        due("loadZimin(0)", ARGUMENT, () -> x.loadZimin(0));
        due("loadZimin(5)", ARGUMENT, () -> x.loadZimin(5));
        due("pattern after a throw", "44", () -> pattern(x));
        String[] words = {"0", "010", "0102010", "010201030102010"};
        for (int number = 4; number >= 1; number--) {
            int n = number;
            due("loadZimin(" + n + ")", words[n - 1].length(), () -> x.loadZimin(n));
            due("pattern", words[n - 1], () -> pattern(x));
        }
        promise = 10;
        PatternLaboratory y = new PatternLaboratory();
        due("occursInZimin(0) with nothing", ARGUMENT, () -> y.occursInZimin(0));
        due("occursInZimin(5) with nothing", ARGUMENT, () -> y.occursInZimin(5));
        due("occursInZimin(1) with nothing", STATE, () -> y.occursInZimin(1));
        due("0 in 1", true, () -> make("0", "").occursInZimin(1));
        due("01 in 1", false, () -> make("01", "").occursInZimin(1));
        due("01 in 2", true, () -> make("01", "").occursInZimin(2));
        due("343 in 2", true, () -> make("343", "").occursInZimin(2));
        due("343 in 1", false, () -> make("343", "").occursInZimin(1));
        due("00 in 4", false, () -> make("00", "").occursInZimin(4));
        due("0121 in 2", false, () -> make("0121", "").occursInZimin(2));
        due("0121 in 3", true, () -> make("0121", "").occursInZimin(3));
        due("Zimin 3 in 3", true, () -> make("0102010", "").occursInZimin(3));
        due("Zimin 4 in 3", false, () -> make("010201030102010", "").occursInZimin(3));
        due("Zimin 4 in 4", true, () -> make("010201030102010", "").occursInZimin(4));
        due("04142 in 4", true, () -> make("04142", "").occursInZimin(4));
    }

    private static void changes() {
        promise = 8;
        PatternLaboratory x = make("42124", "");
        due("canonicalize()", true, x::canonicalize);
        due("pattern", "01210", () -> pattern(x));
        due("canonicalize() again", false, x::canonicalize);
        due("pattern", "01210", () -> pattern(x));
        due("canonicalize() of nothing", false, () -> make("", "").canonicalize());
        due("canonicalize() of 00", false, () -> make("00", "").canonicalize());
        PatternLaboratory swapped = make("1010", "");
        due("canonicalize() of 1010", true, swapped::canonicalize);
        due("pattern", "0101", () -> pattern(swapped));
        PatternLaboratory late = make("021", "");
        due("canonicalize() of 021", true, late::canonicalize);
        due("pattern", "012", () -> pattern(late));
        promise = 9;
        PatternLaboratory y = make("0121", "");
        due("reversePattern()", true, y::reversePattern);
        due("pattern", "1210", () -> pattern(y));
        due("reversePattern() again", true, y::reversePattern);
        due("pattern", "0121", () -> pattern(y));
        due("reversePattern() of nothing", false, () -> make("", "").reversePattern());
        due("reversePattern() of a palindrome", false, () -> make("01210", "").reversePattern());
        due("reversePattern() of 01", true, () -> make("01", "").reversePattern());
    }

    private static void shelves() {
        promise = 11;
        PatternLaboratory x = make("0121", "");
        due("shelve(-1)", INDEX, () -> x.shelve(-1));
        due("shelve(4)", INDEX, () -> x.shelve(4));
        due("shelve(0)", 4, () -> x.shelve(0));
        x.appendVariable(3);
        due("shelve(3)", 5, () -> x.shelve(3));
        promise = 12;
        due("useShelf(-1)", INDEX, () -> x.useShelf(-1));
        due("useShelf(4)", INDEX, () -> x.useShelf(4));
        due("useShelf(1)", STATE, () -> x.useShelf(1));
        due("pattern after a throw", "01213", () -> pattern(x));
        due("useShelf(0)", 4, () -> x.useShelf(0));
        due("pattern", "0121", () -> pattern(x));
        x.appendVariable(4);
        due("useShelf(0) has a copy", 4, () -> x.useShelf(0));
        due("useShelf(3)", 5, () -> x.useShelf(3));
        promise = 11;
        x.clearPattern();
        due("shelve(3) of nothing", 0, () -> x.shelve(3));
        x.appendVariable(1);
        due("useShelf(3) of nothing", 0, () -> x.useShelf(3));
        due("patternLength()", 0, x::patternLength);
        promise = 13;
        due("isIsomorphic(-1)", INDEX, () -> x.isIsomorphic(-1));
        due("isIsomorphic(4)", INDEX, () -> x.isIsomorphic(4));
        due("isIsomorphic(2)", STATE, () -> x.isIsomorphic(2));
        due("nothing and nothing", true, () -> x.isIsomorphic(3));
        due("nothing and 0121", false, () -> x.isIsomorphic(0));
        String[] others = {"0121", "4303", "1020", "0120", "0111", "012", "01213", "0101"};
        for (int i = 0; i < others.length; i++) {
            write(x, others[i]);
            due(others[i] + " and 0121", i < 3, () -> x.isIsomorphic(0));
            due(others[i] + " stays", others[i], () -> pattern(x));
        }
        promise = 14;
        due("contains(-1)", INDEX, () -> x.contains(-1));
        due("contains(4)", INDEX, () -> x.contains(4));
        due("contains(1) of an empty shelf", STATE, () -> x.contains(1));
        due("contains(3) of the empty pattern", STATE, () -> x.contains(3));
        x.clearPattern();
        due("nothing contains 0121", false, () -> x.contains(0));
        String[] texts = {"0121", "33434", "3421034", "012", "01234", "40142"};
        boolean[] have = {true, true, true, false, false, false};
        for (int i = 0; i < texts.length; i++) {
            boolean want = have[i];
            write(x, texts[i]);
            due(texts[i] + " contains 0121", want, () -> x.contains(0));
        }
    }

    private static void theWord() {
        promise = 15;
        PatternLaboratory x = make("01", "0110");
        images(x, "01", "10");
        due("setLetterCount(1)", ARGUMENT, () -> x.setLetterCount(1));
        due("setLetterCount(5)", ARGUMENT, () -> x.setLetterCount(5));
        due("word after a throw", "0110", () -> word(x));
        due("setLetterCount(2)", 2, () -> x.setLetterCount(2));
        due("the same number empties the word too", "", () -> word(x));
        due("and the images", ",", () -> morphism(x, 2));
        due("but not the pattern", "01", () -> pattern(x));
        due("setLetterCount(4)", 2, () -> x.setLetterCount(4));
        due("appendImage(3, 3)", 1, () -> x.appendImage(3, 3));
        due("setLetterCount(3)", 4, () -> x.setLetterCount(3));
        due("setLetterCount(4)", 3, () -> x.setLetterCount(4));
        due("clearImage(3)", 0, () -> x.clearImage(3));
        promise = 16;
        due("appendLetter(3)", 1, () -> x.appendLetter(3));
        due("appendLetter(4)", ARGUMENT, () -> x.appendLetter(4));
        due("appendLetter(-1)", ARGUMENT, () -> x.appendLetter(-1));
        for (int i = 2; i <= 24; i++) {
            int length = i;
            due("appendLetter", length, () -> x.appendLetter(length % 4));
        }
        due("appendLetter(0) when full", STATE, () -> x.appendLetter(0));
        due("appendLetter(4) when full", ARGUMENT, () -> x.appendLetter(4));
        due("word", "323012301230123012301230", () -> word(x));
        promise = 18;
        due("wordLength()", 24, x::wordLength);
        promise = 19;
        due("letter(0)", 3, () -> x.letter(0));
        due("letter(23)", 0, () -> x.letter(23));
        due("letter(24)", INDEX, () -> x.letter(24));
        due("letter(-1)", INDEX, () -> x.letter(-1));
        promise = 17;
        due("clearWord()", 24, x::clearWord);
        due("clearWord() again", 0, x::clearWord);
        due("wordLength()", 0, x::wordLength);
        due("letter(0)", INDEX, () -> x.letter(0));
    }

    private static void numbers() {
        promise = 20;
        PatternLaboratory x = make(3, "", "01010");
        due("density(0)", 3f / 5f, () -> x.density(0));
        due("density(1)", 0.4f, () -> x.density(1));
        due("density(2)", 0f, () -> x.density(2));
        due("density(3)", ARGUMENT, () -> x.density(3));
        due("density(-1)", ARGUMENT, () -> x.density(-1));
        due("density(0) of nothing", ARITHMETIC, () -> make("", "").density(0));
        due("density(2) of nothing", ARGUMENT, () -> make("", "").density(2));
        due("density(1) of 111", 1f, () -> make("", "111").density(1));
        promise = 21;
        PatternLaboratory y = make(4, "", "321");
        due("discountedSum(1)", 6.0, () -> y.discountedSum(1));
        due("discountedSum(-1)", 2.0, () -> y.discountedSum(-1));
        due("discountedSum(0)", 3.0, () -> y.discountedSum(0));
        due("discountedSum(0.5)", 4.25, () -> y.discountedSum(0.5));
        due("discountedSum(0.1)", 3.0 + 2 * 0.1 + 1 * (0.1 * 0.1), () -> y.discountedSum(0.1));
        due("discountedSum of nothing", 0.0, () -> make("", "").discountedSum(-0.5));
        due("discountedSum of 000 is no negative zero", 0.0, () -> make("", "000").discountedSum(-0.5));
        due("discountedSum(1.0000000000000002)", ARGUMENT, () -> y.discountedSum(1.0000000000000002));
        due("discountedSum(-1.0000000000000002)", ARGUMENT, () -> y.discountedSum(-1.0000000000000002));
        due("discountedSum(NaN)", ARGUMENT, () -> y.discountedSum(Double.NaN));
        due("discountedSum(infinity)", ARGUMENT, () -> y.discountedSum(Double.POSITIVE_INFINITY));
        due("discountedSum(NaN) of nothing", ARGUMENT, () -> make("", "").discountedSum(Double.NaN));
    }

    private static void exponent(String word, int start, int length, int period) {
        PatternLaboratory x = make(4, "", word);
        promise = 22;
        due("greatestExponent() of " + word, (double) length / period, x::greatestExponent);
        promise = 23;
        due("strongestFactor(0) of " + word, start, () -> make(4, "", word).strongestFactor(0));
        due("strongestFactor(1) of " + word, length, () -> make(4, "", word).strongestFactor(1));
        due("strongestFactor(2) of " + word, period, () -> make(4, "", word).strongestFactor(2));
    }

    private static void exponents() {
        exponent("0", 0, 1, 1);
        exponent("01", 0, 1, 1);
        exponent("0123", 0, 1, 1);
        exponent("010", 0, 3, 2);
        exponent("01010", 0, 5, 2);
        exponent("2010123", 1, 4, 2);
        exponent("2010223", 4, 2, 1);
        exponent("21013", 1, 3, 2);
        exponent("0122", 2, 2, 1);
        exponent("01011", 0, 4, 2);
        exponent("0101100", 0, 4, 2);
        exponent("011000111", 3, 3, 1);
        exponent("012012", 0, 6, 3);
        exponent("30120120", 1, 7, 3);
        exponent("000000000000000000000000", 0, 24, 1);
        exponent("0100101001", 3, 5, 2);
        exponent("01001001101001", 0, 8, 3);
        PatternLaboratory x = new PatternLaboratory();
        promise = 22;
        due("greatestExponent() of nothing", STATE, x::greatestExponent);
        promise = 23;
        due("strongestFactor(-1) of nothing", ARGUMENT, () -> x.strongestFactor(-1));
        due("strongestFactor(3) of nothing", ARGUMENT, () -> x.strongestFactor(3));
        due("strongestFactor(0) of nothing", STATE, () -> x.strongestFactor(0));
    }

    private static void occurrences() {
        promise = 24;
        due("avoids() with no pattern", STATE, () -> make("", "01").avoids());
        due("nothing avoids 0", true, () -> make("0", "").avoids());
        due("1 avoids 0", false, () -> make("0", "1").avoids());
        due("0 avoids 01", true, () -> make("01", "0").avoids());
        due("010 avoids 00", true, () -> make("00", "010").avoids());
        due("0110 avoids 44", false, () -> make("44", "0110").avoids());
        due("01101 avoids 00", false, () -> make("00", "101101").avoids());
        due("0110100110010110 avoids 000", true, () -> make("000", "0110100110010110").avoids());
        due("0110100110010110 avoids 01010", true, () -> make("01010", "0110100110010110").avoids());
        due("0101 avoids 012", false, () -> make("012", "0101").avoids());
        promise = 28;
        due("occurrenceCount() with no pattern", STATE, () -> make("", "01").occurrenceCount());
        due("0 in nothing", 0, () -> make("0", "").occurrenceCount());
        due("0 in 01", 3, () -> make("0", "01").occurrenceCount());
        due("00 in 0000", 4, () -> make("00", "0000").occurrenceCount());
        due("01 in 010", 4, () -> make("01", "010").occurrenceCount());
        due("010 in 00000", 7, () -> make("010", "00000").occurrenceCount());
        due("000 in 01", 0, () -> make("000", "01").occurrenceCount());
        due("01234 in 24 letters", 177100,
                () -> make("01234", "011010011001011001101001").occurrenceCount());
        due("012340 in 24 zeros", 76714, () -> make("012340", "000000000000000000000000").occurrenceCount());
        due("0110 in 01100110", 4, () -> make("0110", "01100110").occurrenceCount());
    }

    private static void remembered() {
        PatternLaboratory x = make(3, "3413", "20121201");
        promise = 26;
        due("imageLength(-1)", ARGUMENT, () -> x.imageLength(-1));
        due("imageLength(5)", ARGUMENT, () -> x.imageLength(5));
        due("imageLength(0) of nothing", STATE, () -> x.imageLength(0));
        promise = 27;
        due("imageLetter(-1, 0)", ARGUMENT, () -> x.imageLetter(-1, 0));
        due("imageLetter(5, 0)", ARGUMENT, () -> x.imageLetter(5, 0));
        due("imageLetter(0, -1) of nothing", STATE, () -> x.imageLetter(0, -1));
        promise = 25;
        due("findOccurrence()", 0, x::findOccurrence);
        due("image 3", "2", () -> image(x, 3));
        due("image 4", "0", () -> image(x, 4));
        due("image 1", "1", () -> image(x, 1));
        promise = 26;
        due("imageLength(0)", 0, () -> x.imageLength(0));
        due("imageLength(2)", 0, () -> x.imageLength(2));
        due("imageLength(3)", 1, () -> x.imageLength(3));
        due("imageLength(5)", ARGUMENT, () -> x.imageLength(5));
        promise = 27;
        due("imageLetter(0, 0)", INDEX, () -> x.imageLetter(0, 0));
        due("imageLetter(3, 0)", 2, () -> x.imageLetter(3, 0));
        due("imageLetter(3, 1)", INDEX, () -> x.imageLetter(3, 1));
        due("imageLetter(3, -1)", INDEX, () -> x.imageLetter(3, -1));
        promise = 25;
        write(x, "00");
        due("findOccurrence() of 00", 2, x::findOccurrence);
        due("image 0", "12", () -> image(x, 0));
        due("image 3 is forgotten", "", () -> image(x, 3));
        due("occurrenceCount() after that", 1, x::occurrenceCount);
        write(x, "000");
        due("findOccurrence() of 000", NONE, x::findOccurrence);
        due("image 0 after a throw", "12", () -> image(x, 0));
        x.clearPattern();
        due("findOccurrence() of nothing", STATE, x::findOccurrence);
        x.setLetterCount(2);
        due("image 0 of another word", "12", () -> image(x, 0));
        due("the order is that of the first appearance", "0,0,111",
                () -> occurrence(make("2102", "0011100"), "2", "1", "0"));
        due("the last of several images takes what is over", "0,1,1,11",
                () -> occurrence(make("01230", "011110"), "0", "1", "2", "3"));
        due("a late start", "1,0", () -> occurrence(make("0011", "01011001"), "0", "1"));
        due("a single image reaches back to the start", "010,1",
                () -> occurrence(make("011", "01011"), "0", "1"));
    }

    private static String occurrence(PatternLaboratory x, String... variables) {
        try {
            x.findOccurrence();
        } catch (NoSuchElementException e) {
            return "none";
        }
        StringBuilder text = new StringBuilder();
        for (String variable : variables) {
            text.append(text.length() == 0 ? "" : ",").append(image(x, variable.charAt(0) - '0'));
        }
        return text.toString();
    }

    private static void adjacency() {
        promise = 29;
        PatternLaboratory x = make("010212", "");
        due("right 0, left 1", true, () -> x.areConnected(0, 1));
        due("right 0, left 2", true, () -> x.areConnected(0, 2));
        due("right 1, left 0", true, () -> x.areConnected(1, 0));
        due("right 2, left 1", true, () -> x.areConnected(2, 1));
        due("right 1, left 1 over a chain", true, () -> x.areConnected(1, 1));
        due("right 0, left 3", ARGUMENT, () -> x.areConnected(0, 3));
        due("right 3, left 0", ARGUMENT, () -> x.areConnected(3, 0));
        due("right -1, left 0", ARGUMENT, () -> x.areConnected(-1, 0));
        due("right 0, left 32", ARGUMENT, () -> x.areConnected(0, 32));
        due("a chain over the left side of 0", true, () -> make("102023", "").areConnected(1, 3));
        due("a chain over the right side of 0", true, () -> make("010321", "").areConnected(2, 3));
        due("a long chain", true, () -> make("01212343", "").areConnected(4, 1));
        due("no chain, right 0", false, () -> make("01212343", "").areConnected(0, 2));
        due("no chain, right 1", false, () -> make("01212343", "").areConnected(1, 4));
        PatternLaboratory y = make("010", "");
        due("right 0, left 0 of 010", false, () -> y.areConnected(0, 0));
        due("right 0, left 1 of 010", true, () -> y.areConnected(0, 1));
        due("right 1, left 0 of 010", true, () -> y.areConnected(1, 0));
        due("right 1, left 1 of 010", false, () -> y.areConnected(1, 1));
        due("right 0, left 0 of 00", true, () -> make("00", "").areConnected(0, 0));
        due("right 0, left 0 of 0", false, () -> make("0", "").areConnected(0, 0));
        promise = 30;
        due("isFree(0)", ARGUMENT, () -> y.isFree(0));
        due("isFree(4)", ARGUMENT, () -> y.isFree(4));
        due("isFree(5)", ARGUMENT, () -> y.isFree(5));
        due("isFree(33)", ARGUMENT, () -> y.isFree(33));
        due("isFree(-1)", ARGUMENT, () -> y.isFree(-1));
        due("isFree(MIN)", ARGUMENT, () -> y.isFree(Integer.MIN_VALUE));
        due("isFree(1)", true, () -> y.isFree(1));
        due("isFree(2)", true, () -> y.isFree(2));
        due("isFree(3)", false, () -> y.isFree(3));
        due("isFree(1) of 00", false, () -> make("00", "").isFree(1));
        promise = 31;
        due("freeSetCount() of nothing", 0, () -> make("", "").freeSetCount());
        due("freeSetCount() of 0", 1, () -> make("0", "").freeSetCount());
        due("freeSetCount() of 00", 0, () -> make("00", "").freeSetCount());
        due("freeSetCount() of 010", 2, y::freeSetCount);
        due("freeSetCount() of 0102010", 4, () -> make("0102010", "").freeSetCount());
        promise = 32;
        due("free sets of 010", "1,2", () -> freeSets(y));
        due("free sets of 0102010", "1,2,4,6", () -> freeSets(make("0102010", "")));
        due("free sets of 4 2", "4,16", () -> freeSets(make("42", "")));
        due("free sets of 01234", "1,2,4,5,8,9,10,16,17,18,20,21", () -> freeSets(make("01234", "")));
        due("free sets of 3", "8", () -> freeSets(make("3", "")));
        due("freeSet(0) of 010 alone", 1, () -> make("010", "").freeSet(0));
        due("freeSet(0) of 001 alone", 2, () -> make("001", "").freeSet(0));
        due("freeSet(2)", INDEX, () -> y.freeSet(2));
        due("freeSet(-1)", INDEX, () -> y.freeSet(-1));
        due("freeSet(MIN)", INDEX, () -> y.freeSet(Integer.MIN_VALUE));
        due("freeSet(MAX)", INDEX, () -> y.freeSet(Integer.MAX_VALUE));
        due("freeSet(0) of nothing", INDEX, () -> make("", "").freeSet(0));
    }

    private static void reductions() {
        promise = 33;
        PatternLaboratory x = make("0102010", "");
        due("delete(0)", ARGUMENT, () -> x.delete(0));
        due("delete(8)", ARGUMENT, () -> x.delete(8));
        due("delete(11)", ARGUMENT, () -> x.delete(11));
        due("delete(-1)", ARGUMENT, () -> x.delete(-1));
        due("delete(3)", STATE, () -> x.delete(3));
        due("pattern after a throw", "0102010", () -> pattern(x));
        due("delete(6)", 4, () -> x.delete(6));
        due("pattern", "0000", () -> pattern(x));
        due("delete(1)", STATE, () -> x.delete(1));
        PatternLaboratory y = make("01021", "");
        due("delete(1)", 3, () -> y.delete(1));
        due("pattern", "121", () -> pattern(y));
        due("delete(2)", 1, () -> y.delete(2));
        due("delete(4)", 0, () -> y.delete(4));
        due("delete(4) of nothing", ARGUMENT, () -> y.delete(4));
        promise = 34;
        String[] unavoidable = {"", "0", "01", "010", "0102010", "010201030102010", "0121", "01210312", "43210"};
        String[] avoidable = {"00", "0011", "0101", "01010", "010212", "0110"};
        for (String pattern : unavoidable) {
            due("isUnavoidable() of " + pattern, true, () -> make(pattern, "").isUnavoidable());
        }
        for (String pattern : avoidable) {
            due("isUnavoidable() of " + pattern, false, () -> make(pattern, "").isUnavoidable());
        }
        promise = 35;
        due("reductionLength() of nothing", 0, () -> make("", "").reductionLength());
        due("reductionLength() of 0", 1, () -> make("0", "").reductionLength());
        due("reductionLength() of 01234", 3, () -> make("01234", "").reductionLength());
        due("reductionLength() of Zimin 4", 4, () -> make("010201030102010", "").reductionLength());
        due("reductionLength() of 00", NONE, () -> make("00", "").reductionLength());
        promise = 36;
        due("reduction of 0102010", "1,2,4", () -> reduction(make("0102010", "")));
        due("reduction of 01234", "5,18,8", () -> reduction(make("01234", "")));
        due("reduction of 43034", "8,16,1", () -> reduction(make("43034", "")));
        due("reduction of 01210312", "1,2,4,8", () -> reduction(make("01210312", "")));
        due("reductionSet(0) of 00", NONE, () -> make("00", "").reductionSet(0));
        due("reductionSet(-1) of 00", NONE, () -> make("00", "").reductionSet(-1));
        due("reductionSet(0) of nothing", INDEX, () -> make("", "").reductionSet(0));
        due("reductionSet(2) of 010", INDEX, () -> make("010", "").reductionSet(2));
        due("reductionSet(-1) of 010", INDEX, () -> make("010", "").reductionSet(-1));
    }

    private static void extensions() {
        promise = 37;
        PatternLaboratory x = make("00", "01");
        due("extend(1)", ARGUMENT, () -> x.extend(1));
        due("extend(25)", ARGUMENT, () -> x.extend(25));
        due("extend(2)", 0, () -> x.extend(2));
        due("extend(3)", 1, () -> x.extend(3));
        due("word", "010", () -> word(x));
        due("extend(4)", NONE, () -> x.extend(4));
        due("word after a throw", "010", () -> word(x));
        due("extend(2) with no pattern", STATE, () -> make("", "01").extend(2));
        due("extend(1) with no pattern", ARGUMENT, () -> make("", "01").extend(1));
        due("extend(2) of 11", NONE, () -> make("00", "11").extend(2));
        due("extend(24) of 0110", NONE, () -> make("00", "0110").extend(24));
        PatternLaboratory y = make(3, "00", "");
        due("extend(10)", 22, () -> y.extend(10));
        due("word", "0102012021", () -> word(y));
        PatternLaboratory z = make("000", "");
        due("extend(24)", 35, () -> z.extend(24));
        due("word", "001001010010011001001010", () -> word(z));
        due("010 with three letters", NONE, () -> make(3, "010", "").extend(24));
        due("1500 trials", 1500, () -> make("01012131", "").extend(24));
        due("1501 trials", UNSUPPORTED, () -> make("00010203", "").extend(23));
        PatternLaboratory deep = make(4, "010", "00");
        due("given up", UNSUPPORTED, () -> make(4, "010", "").extend(24));
        due("extend(24) of 00", NONE, () -> deep.extend(24));
        due("extend(8) of 00", 18, () -> deep.extend(8));
        due("word", "00112233", () -> word(deep));
        promise = 38;
        due("longestAvoiding(0)", ARGUMENT, () -> make("", "").longestAvoiding(0));
        due("longestAvoiding(21)", ARGUMENT, () -> make("", "").longestAvoiding(21));
        due("longestAvoiding(1) with no pattern", STATE, () -> make("", "").longestAvoiding(1));
        due("0", 0, () -> make("0", "").longestAvoiding(20));
        due("01", 1, () -> make("01", "").longestAvoiding(20));
        due("01, at most 1", 1, () -> make("01", "").longestAvoiding(1));
        due("00", 3, () -> make("00", "").longestAvoiding(20));
        due("00, at most 2", 2, () -> make("00", "").longestAvoiding(2));
        due("00 with three letters", 20, () -> make(3, "00", "").longestAvoiding(20));
        due("010 with three letters", 6, () -> make(3, "010", "").longestAvoiding(20));
        due("010 with four letters", UNSUPPORTED, () -> make(4, "010", "").longestAvoiding(20));
        due("the word does not matter", 4, () -> make("010", "000").longestAvoiding(20));
    }

    private static void counts() {
        promise = 39;
        due("countAvoiding(-1)", ARGUMENT, () -> make("", "").countAvoiding(-1));
        due("countAvoiding(11)", ARGUMENT, () -> make("", "").countAvoiding(11));
        due("countAvoiding(0) with no pattern", STATE, () -> make("", "").countAvoiding(0));
        due("0, length 0", 1, () -> make("0", "").countAvoiding(0));
        due("0, length 1", 0, () -> make("0", "").countAvoiding(1));
        due("00, length 3", 2, () -> make("00", "").countAvoiding(3));
        due("00, length 4", 0, () -> make("00", "").countAvoiding(4));
        due("00 with three letters, length 5", 30, () -> make(3, "00", "").countAvoiding(5));
        due("000, length 10", 118, () -> make("000", "").countAvoiding(10));
        due("1022 trials", 512, () -> make("01234012340123", "").countAvoiding(9));
        due("2046 trials", UNSUPPORTED, () -> make("01234012340123", "").countAvoiding(10));
        due("1092 trials", 729, () -> make(3, "0123401234", "").countAvoiding(6));
        due("3279 trials", UNSUPPORTED, () -> make(3, "0123401234", "").countAvoiding(7));
        promise = 40;
        due("growth(0)", ARGUMENT, () -> make("", "").growth(0));
        due("growth(11)", ARGUMENT, () -> make("", "").growth(11));
        due("growth(1) with no pattern", STATE, () -> make("", "").growth(1));
        due("growth(1) of 0", 0.0, () -> make("0", "").growth(1));
        due("growth(2) of 0", ARITHMETIC, () -> make("0", "").growth(2));
        due("growth(10) of 0", ARITHMETIC, () -> make("0", "").growth(10));
        due("growth(1) of 00", 2.0, () -> make("00", "").growth(1));
        due("growth(5) of 00 with three letters", 30.0 / 18.0, () -> make(3, "00", "").growth(5));
        due("growth(9)", 2.0, () -> make("01234012340123", "").growth(9));
        due("growth(10)", UNSUPPORTED, () -> make("01234012340123", "").growth(10));
    }

    private static void morphisms() {
        promise = 41;
        PatternLaboratory x = make("", "010");
        due("appendImage(2, 0)", ARGUMENT, () -> x.appendImage(2, 0));
        due("appendImage(0, 2)", ARGUMENT, () -> x.appendImage(0, 2));
        due("appendImage(-1, 0)", ARGUMENT, () -> x.appendImage(-1, 0));
        due("appendImage(0, -1)", ARGUMENT, () -> x.appendImage(0, -1));
        for (int i = 1; i <= 4; i++) {
            int length = i;
            due("appendImage(1, ..)", length, () -> x.appendImage(1, length % 2));
        }
        due("appendImage(1, 0) when full", STATE, () -> x.appendImage(1, 0));
        due("appendImage(1, 2) when full", ARGUMENT, () -> x.appendImage(1, 2));
        due("appendImage(0, 1)", 1, () -> x.appendImage(0, 1));
        promise = 43;
        due("applyMorphism()", 6, x::applyMorphism);
        due("word", "110101", () -> word(x));
        due("applyMorphism() to 18 letters", 18, x::applyMorphism);
        due("applyMorphism() to more", STATE, x::applyMorphism);
        due("wordLength() after a throw", 18, x::wordLength);
        promise = 42;
        due("clearImage(2)", ARGUMENT, () -> x.clearImage(2));
        due("clearImage(-1)", ARGUMENT, () -> x.clearImage(-1));
        due("clearImage(1)", 4, () -> x.clearImage(1));
        due("clearImage(1) again", 0, () -> x.clearImage(1));
        promise = 43;
        due("applyMorphism() with an empty image", 8, x::applyMorphism);
        due("applyMorphism() with 1s alone", 0, x::applyMorphism);
        due("applyMorphism() to nothing", 0, x::applyMorphism);
        PatternLaboratory full = make("", "000000");
        images(full, "0101", "");
        due("applyMorphism() to 24 letters", 24, full::applyMorphism);
        PatternLaboratory over = make("", "0000001");
        images(over, "0101", "1");
        due("applyMorphism() to 25 letters", STATE, over::applyMorphism);
        iterations();
    }

    private static void iterations() {
        promise = 44;
        PatternLaboratory x = make("", "11");
        images(x, "01", "10");
        due("iterate(2, 0)", ARGUMENT, () -> x.iterate(2, 0));
        due("iterate(-1, 0)", ARGUMENT, () -> x.iterate(-1, 0));
        due("iterate(0, -1)", ARGUMENT, () -> x.iterate(0, -1));
        due("iterate(0, 11)", ARGUMENT, () -> x.iterate(0, 11));
        due("iterate(0, 5)", STATE, () -> x.iterate(0, 5));
        due("word after a throw", "11", () -> word(x));
        due("iterate(1, 0)", 1, () -> x.iterate(1, 0));
        due("word", "1", () -> word(x));
        due("iterate(0, 4)", 16, () -> x.iterate(0, 4));
        due("word", "0110100110010110", () -> word(x));
        PatternLaboratory y = make(4, "", "");
        images(y, "1111", "2222", "3333", "");
        due("iterate(0, 2)", 16, () -> y.iterate(0, 2));
        due("a long result on the way to a short one", STATE, () -> y.iterate(0, 4));
        due("iterate(1, 3)", 0, () -> y.iterate(1, 3));
        due("iterate(3, 10)", 0, () -> y.iterate(3, 10));
        PatternLaboratory z = make("", "");
        images(z, "1", "0");
        due("iterate(0, 10)", 1, () -> z.iterate(0, 10));
        due("word", "0", () -> word(z));
        due("iterate(0, 9)", 1, () -> z.iterate(0, 9));
        due("word", "1", () -> word(z));
    }

    private static void spoiled() {
        promise = 46;
        PatternLaboratory x = make(3, "00", "012");
        due("countSpoiled(-1)", ARGUMENT, () -> x.countSpoiled(-1));
        due("countSpoiled(6)", ARGUMENT, () -> x.countSpoiled(6));
        due("countSpoiled(0) with no pattern", STATE, () -> make("", "").countSpoiled(0));
        due("empty images spoil nothing", 0, () -> x.countSpoiled(3));
        images(x, "0", "1", "2");
        due("the identity spoils nothing", 0, () -> x.countSpoiled(5));
        images(x, "0", "0", "2");
        due("length 0", 0, () -> x.countSpoiled(0));
        due("length 1", 0, () -> x.countSpoiled(1));
        due("length 2", 2, () -> x.countSpoiled(2));
        due("length 3", 6, () -> x.countSpoiled(3));
        images(x, "00", "1", "2");
        due("length 1 with a square", 1, () -> x.countSpoiled(1));
        due("length 2 with a square", 4, () -> x.countSpoiled(2));
        due("the word stays", "012", () -> word(x));
        PatternLaboratory y = make(4, "00000", "");
        images(y, "0000", "0000", "0000", "0000");
        due("1364 trials", 1024 - 4, () -> y.countSpoiled(5));
        promise = 45;
        due("findMorphism(0, 1)", ARGUMENT, () -> x.findMorphism(0, 1));
        due("findMorphism(4, 1)", ARGUMENT, () -> x.findMorphism(4, 1));
        due("findMorphism(1, 0)", ARGUMENT, () -> x.findMorphism(1, 0));
        due("findMorphism(1, 3)", ARGUMENT, () -> x.findMorphism(1, 3));
        due("findMorphism(1, 3) with no pattern", ARGUMENT, () -> make("", "").findMorphism(1, 3));
        due("findMorphism(1, 1) with no pattern", STATE, () -> make("", "").findMorphism(1, 1));
        foundMorphisms(x);
    }

    private static void foundMorphisms(PatternLaboratory x) {
        due("findMorphism(1, 2)", 6, () -> x.findMorphism(1, 2));
        due("morphism", "0,1,2", () -> morphism(x, 3));
        due("findMorphism(3, 2) is too far", UNSUPPORTED, () -> x.findMorphism(3, 2));
        due("morphism after a throw", "0,1,2", () -> morphism(x, 3));
        due("findMorphism(2, 1)", 92, () -> x.findMorphism(2, 1));
        due("morphism", "01,01,01", () -> morphism(x, 3));
        PatternLaboratory y = make("00", "");
        due("findMorphism(2, 1) of 00", 6, () -> y.findMorphism(2, 1));
        due("morphism", "01,01", () -> morphism(y, 2));
        due("findMorphism(2, 2) of 00", NONE, () -> y.findMorphism(2, 2));
        due("morphism after a throw", "01,01", () -> morphism(y, 2));
        due("findMorphism(3, 2) of 00", NONE, () -> y.findMorphism(3, 2));
        PatternLaboratory z = make("000", "");
        due("findMorphism(2, 2) of 000", 6, () -> z.findMorphism(2, 2));
        due("findMorphism(1, 1) of 0", 1, () -> make("0", "").findMorphism(1, 1));
        PatternLaboratory last = make(3, "00", "");
        due("findMorphism(1, 1) of 00", 1, () -> last.findMorphism(1, 1));
        due("morphism", "0,0,0", () -> morphism(last, 3));
        images(last, "0120", "12", "");
        due("findMorphism(1, 2) replaces all images", 6, () -> last.findMorphism(1, 2));
        due("morphism", "0,1,2", () -> morphism(last, 3));
    }

    private static void snapshots() {
        PatternLaboratory x = make(3, "0121", "01201");
        images(x, "01", "2", "");
        promise = 48;
        due("restore() of nothing", STATE, x::restore);
        due("word after a throw", "01201", () -> word(x));
        promise = 47;
        due("save()", 5, x::save);
        x.findOccurrence();
        x.shelve(1);
        x.setLetterCount(4);
        write(x, "44");
        x.appendLetter(3);
        images(x, "", "", "3", "33");
        promise = 48;
        due("restore()", 5, x::restore);
        due("word", "01201", () -> word(x));
        due("pattern", "0121", () -> pattern(x));
        due("morphism", "01,2,", () -> morphism(x, 3));
        due("appendLetter(3)", ARGUMENT, () -> x.appendLetter(3));
        due("it stays saved", 5, x::restore);
        due("shelves stay", 4, () -> x.useShelf(1));
        due("what is remembered stays", 1, () -> x.imageLength(0));
        promise = 47;
        x.clearWord();
        x.clearPattern();
        due("save() again", 0, x::save);
        x.appendLetter(1);
        x.appendVariable(1);
        x.appendImage(1, 1);
        promise = 48;
        due("restore() again", 0, x::restore);
        due("word", "", () -> word(x));
        due("pattern", "", () -> pattern(x));
        due("morphism", "01,2,", () -> morphism(x, 3));
    }

    public static void main(String[] args) {
        newObject();
        thePattern();
        zimin();
        changes();
        shelves();
        theWord();
        numbers();
        exponents();
        occurrences();
        remembered();
        adjacency();
        reductions();
        extensions();
        counts();
        morphisms();
        spoiled();
        snapshots();
        end("all promises are kept");
    }
}
