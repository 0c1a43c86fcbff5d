import java.util.NoSuchElementException;

/** What the tests of the promises share: laboratories from texts, texts from laboratories, and the tally. */
abstract class Bench {
    interface Call {
        Object answer();
    }

    static final Class<?> ARGUMENT = IllegalArgumentException.class;
    static final Class<?> STATE = IllegalStateException.class;
    static final Class<?> INDEX = IndexOutOfBoundsException.class;
    static final Class<?> NONE = NoSuchElementException.class;
    static final Class<?> UNSUPPORTED = UnsupportedOperationException.class;
    static final Class<?> ARITHMETIC = ArithmeticException.class;

    static int promise = 0;
    static int wrong = 0;

    static void due(String what, Object want, Call call) {
        compare(what, want, outcome(call));
    }

    static void compare(String what, Object want, Object got) {
        if (!want.equals(got)) {
            wrong++;
            System.out.println("promise " + promise + ": " + what + " answered " + got + ", due is " + want);
        }
    }

    /** What a call answers, or the class of what it throws. */
    static Object outcome(Call call) {
        try {
            return call.answer();
        } catch (RuntimeException e) {
            return e.getClass();
        }
    }

    static void end(String good) {
        System.out.println(wrong == 0 ? good : wrong + " answers are not as due");
        if (wrong != 0) {
            System.exit(1);
        }
    }

    static PatternLaboratory make(int letters, String pattern, String word) {
        PatternLaboratory x = new PatternLaboratory();
        x.setLetterCount(letters);
        write(x, pattern);
        for (char c : word.toCharArray()) {
            x.appendLetter(c - '0');
        }
        return x;
    }

    static PatternLaboratory make(String pattern, String word) {
        return make(2, pattern, word);
    }

    static void write(PatternLaboratory x, String pattern) {
        x.clearPattern();
        for (char c : pattern.toCharArray()) {
            x.appendVariable(c - '0');
        }
    }

    static void images(PatternLaboratory x, String... images) {
        for (int letter = 0; letter < images.length; letter++) {
            x.clearImage(letter);
            for (char c : images[letter].toCharArray()) {
                x.appendImage(letter, c - '0');
            }
        }
    }

    static String pattern(PatternLaboratory x) {
        StringBuilder text = new StringBuilder();
        int length = x.patternLength();
        for (int i = 0; i < length; i++) {
            text.append(x.patternVariable(i));
        }
        return text.toString();
    }

    static String word(PatternLaboratory x) {
        StringBuilder text = new StringBuilder();
        int length = x.wordLength();
        for (int i = 0; i < length; i++) {
            text.append(x.letter(i));
        }
        return text.toString();
    }

    static String image(PatternLaboratory x, int variable) {
        StringBuilder text = new StringBuilder();
        int length = x.imageLength(variable);
        for (int i = 0; i < length; i++) {
            text.append(x.imageLetter(variable, i));
        }
        return text.toString();
    }

    /** What the letters become shows the morphism; the laboratory is left with another word. */
    static String morphism(PatternLaboratory x, int letters) {
        StringBuilder text = new StringBuilder();
        for (int letter = 0; letter < letters; letter++) {
            x.iterate(letter, 1);
            text.append(letter == 0 ? "" : ",").append(word(x));
        }
        return text.toString();
    }
}
