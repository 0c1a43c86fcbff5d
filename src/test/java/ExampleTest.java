import java.util.NoSuchElementException;

/** The examples of the document, call by call, and the one of README.md. */
public final class ExampleTest {
    private static int wrong = 0;

    private static void due(String call, Object got, Object want) {
        if (!want.equals(got)) {
            wrong++;
            System.out.println(call + " answered " + got + ", due is " + want);
        }
    }

    private static void square() {
        PatternLaboratory x = new PatternLaboratory();
        due("appendVariable(0)", x.appendVariable(0), 1);
        due("appendVariable(0)", x.appendVariable(0), 2);
        due("isUnavoidable()", x.isUnavoidable(), false);
        due("extend(3)", x.extend(3), 4);
        due("letter(0)", x.letter(0), 0);
        due("letter(1)", x.letter(1), 1);
        due("letter(2)", x.letter(2), 0);
        due("longestAvoiding(20)", x.longestAvoiding(20), 3);
        due("countAvoiding(3)", x.countAvoiding(3), 2);
        try {
            due("extend(4)", x.extend(4), "an exception");
        } catch (NoSuchElementException e) {
            due("wordLength()", x.wordLength(), 3);
        }
    }

    private static void zimin() {
        PatternLaboratory x = new PatternLaboratory();
        due("loadZimin(2)", x.loadZimin(2), 3);
        due("isUnavoidable()", x.isUnavoidable(), true);
        due("reductionLength()", x.reductionLength(), 2);
        due("reductionSet(0)", x.reductionSet(0), 1);
        due("reductionSet(1)", x.reductionSet(1), 2);
        due("freeSetCount()", x.freeSetCount(), 2);
        due("longestAvoiding(20)", x.longestAvoiding(20), 4);
    }

    private static void occurrence() {
        PatternLaboratory x = new PatternLaboratory();
        due("appendVariable(0)", x.appendVariable(0), 1);
        due("appendVariable(1)", x.appendVariable(1), 2);
        due("appendVariable(0)", x.appendVariable(0), 3);
        due("appendLetter(0)", x.appendLetter(0), 1);
        due("appendLetter(1)", x.appendLetter(1), 2);
        due("appendLetter(1)", x.appendLetter(1), 3);
        due("appendLetter(0)", x.appendLetter(0), 4);
        due("findOccurrence()", x.findOccurrence(), 0);
        due("imageLength(0)", x.imageLength(0), 1);
        due("imageLength(1)", x.imageLength(1), 2);
        due("imageLetter(1, 1)", x.imageLetter(1, 1), 1);
        due("occurrenceCount()", x.occurrenceCount(), 1);
    }

    private static void power() {
        PatternLaboratory x = new PatternLaboratory();
        for (int i = 0; i < 5; i++) {
            due("appendLetter", x.appendLetter(i % 2), i + 1);
        }
        due("greatestExponent()", x.greatestExponent(), 2.5);
        due("strongestFactor(0)", x.strongestFactor(0), 0);
        due("strongestFactor(1)", x.strongestFactor(1), 5);
        due("strongestFactor(2)", x.strongestFactor(2), 2);
        due("density(1)", x.density(1), 0.4f);
        try {
            due("discountedSum(4)", x.discountedSum(4), "an exception");
        } catch (IllegalArgumentException e) {
            due("wordLength()", x.wordLength(), 5);
        }
    }

    private static void images() {
        PatternLaboratory x = new PatternLaboratory();
        due("appendImage(0, 0)", x.appendImage(0, 0), 1);
        due("appendImage(0, 1)", x.appendImage(0, 1), 2);
        due("appendImage(1, 1)", x.appendImage(1, 1), 1);
        due("appendImage(1, 0)", x.appendImage(1, 0), 2);
        due("iterate(0, 3)", x.iterate(0, 3), 8);
        due("letter(7)", x.letter(7), 1);
        try {
            due("iterate(0, 5)", x.iterate(0, 5), "an exception");
        } catch (IllegalStateException e) {
            due("wordLength()", x.wordLength(), 8);
        }
        try {
            due("appendLetter(2)", x.appendLetter(2), "an exception");
        } catch (IllegalArgumentException e) {
            due("wordLength()", x.wordLength(), 8);
        }
        try {
            due("letter(8)", x.letter(8), "an exception");
        } catch (IndexOutOfBoundsException e) {
            due("wordLength()", x.wordLength(), 8);
        }
    }

    private static void readme() {
        PatternLaboratory x = new PatternLaboratory();
        due("setLetterCount(3)", x.setLetterCount(3), 2);
        due("appendVariable(0)", x.appendVariable(0), 1);
        due("appendVariable(0)", x.appendVariable(0), 2);
        due("isUnavoidable()", x.isUnavoidable(), false);
        due("extend(10)", x.extend(10), 22);
        StringBuilder word = new StringBuilder();
        for (int i = 0; i < x.wordLength(); i++) {
            word.append(x.letter(i));
        }
        due("the word", word.toString(), "0102012021");
        due("findMorphism(1, 2)", x.findMorphism(1, 2), 6);
    }

    public static void main(String[] args) {
        square();
        zimin();
        occurrence();
        power();
        images();
        readme();
        System.out.println(wrong == 0 ? "the examples are as due" : wrong + " answers are not as due");
        if (wrong != 0) {
            System.exit(1);
        }
    }
}
