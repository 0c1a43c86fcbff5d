import java.util.NoSuchElementException;

/**
 * A laboratory for avoidable and unavoidable patterns in words: occurrences of patterns, words that avoid a pattern,
 * free sets and reductions, Zimin words, and morphisms.
 *
 * All rows are made in the constructor and used again, so that no call makes an object.
 */
public final class PatternLaboratory {
    private static final int VARIABLES = 5;
    private static final int SETS = 1 << VARIABLES;
    private static final int LONGEST_PATTERN = 15;
    private static final int LONGEST_WORD = 24;
    private static final int FEWEST_LETTERS = 2;
    private static final int MOST_LETTERS = 4;
    private static final int LONGEST_IMAGE = 4;
    private static final int SHELVES = 4;
    private static final int MOST_ZIMIN = 4;
    private static final int MOST_TIMES = 10;
    private static final int LONGEST_LIMIT = 20;
    private static final int LONGEST_COUNTED = 10;
    private static final int LONGEST_SPOILED = 5;
    private static final int LONGEST_FOUND_IMAGE = 3;
    private static final int LONGEST_TEST = 2;
    private static final int MOST_TRIALS = 1500;
    private static final int MOST_MORPHISMS = 100;
    private static final int GIVEN_UP = -1;

    private final Desk desk;
    private final Desk saved;
    private boolean isSaved;
    private final Row[] shelves;
    private final boolean[] isFilled;
    private final Occurrence remembered;
    private final Matcher matcher;
    private final Search search;
    private final Reducer reducer;
    private final Repetition repetition;
    private final Morphism candidate;
    private final Row draft;
    private final Row result;

    public PatternLaboratory() {
        desk = new Desk();
        saved = new Desk();
        isSaved = false;
        shelves = new Row[SHELVES];
        for (int shelf = 0; shelf < SHELVES; shelf++) {
            shelves[shelf] = new Row();
        }
        isFilled = new boolean[SHELVES];
        remembered = new Occurrence();
        matcher = new Matcher();
        search = new Search();
        reducer = new Reducer();
        repetition = new Repetition();
        candidate = new Morphism();
        draft = new Row();
        result = new Row();
    }

    // ---- the pattern

    public int appendVariable(int variable) throws IllegalArgumentException, IllegalStateException {
        if (!isVariable(variable)) {
            throw new IllegalArgumentException("no such variable");
        }
        if (desk.pattern.size >= LONGEST_PATTERN) {
            throw new IllegalStateException("the pattern is full");
        }
        desk.pattern.add(variable);
        return desk.pattern.size;
    }

    public int clearPattern() {
        int previous = desk.pattern.size;
        desk.pattern.clear();
        return previous;
    }

    public int patternLength() {
        return desk.pattern.size;
    }

    public int patternVariable(int position) throws IndexOutOfBoundsException {
        if (!desk.pattern.has(position)) {
            throw new IndexOutOfBoundsException("no such position in the pattern");
        }
        return desk.pattern.get(position);
    }

    public int variables() {
        return desk.pattern.members();
    }

    public int loadZimin(int number) throws IllegalArgumentException {
        requireZimin(number);
        desk.pattern.becomeZimin(number);
        return desk.pattern.size;
    }

    public boolean canonicalize() {
        draft.becomeCanonical(desk.pattern);
        return changePattern(draft);
    }

    public boolean reversePattern() {
        draft.becomeReverse(desk.pattern);
        return changePattern(draft);
    }

    public boolean occursInZimin(int number) throws IllegalArgumentException, IllegalStateException {
        requireZimin(number);
        requirePattern();
        draft.becomeZimin(number);
        return occurs(desk.pattern, draft);
    }

    public int shelve(int shelf) throws IndexOutOfBoundsException {
        requireShelf(shelf);
        shelves[shelf].become(desk.pattern);
        isFilled[shelf] = true;
        return desk.pattern.size;
    }

    public int useShelf(int shelf) throws IndexOutOfBoundsException, IllegalStateException {
        requireFilled(shelf);
        desk.pattern.become(shelves[shelf]);
        return desk.pattern.size;
    }

    public boolean isIsomorphic(int shelf) throws IndexOutOfBoundsException, IllegalStateException {
        requireFilled(shelf);
        draft.becomeCanonical(desk.pattern);
        result.becomeCanonical(shelves[shelf]);
        return draft.isSame(result);
    }

    public boolean contains(int shelf) throws IndexOutOfBoundsException, IllegalStateException {
        requireFilled(shelf);
        if (shelves[shelf].size == 0) {
            throw new IllegalStateException("the shelf holds the empty pattern");
        }
        return occurs(shelves[shelf], desk.pattern);
    }

    // ---- the word

    public int setLetterCount(int letters) throws IllegalArgumentException {
        if (letters < FEWEST_LETTERS || letters > MOST_LETTERS) {
            throw new IllegalArgumentException("the number of letters is out of range");
        }
        int previous = desk.letters;
        desk.letters = letters;
        desk.word.clear();
        desk.morphism.clear();
        return previous;
    }

    public int appendLetter(int letter) throws IllegalArgumentException, IllegalStateException {
        requireLetter(letter);
        if (desk.word.size >= LONGEST_WORD) {
            throw new IllegalStateException("the word is full");
        }
        desk.word.add(letter);
        return desk.word.size;
    }

    public int clearWord() {
        int previous = desk.word.size;
        desk.word.clear();
        return previous;
    }

    public int wordLength() {
        return desk.word.size;
    }

    public int letter(int position) throws IndexOutOfBoundsException {
        if (!desk.word.has(position)) {
            throw new IndexOutOfBoundsException("no such position in the word");
        }
        return desk.word.get(position);
    }

    public float density(int letter) throws IllegalArgumentException, ArithmeticException {
        requireLetter(letter);
        if (desk.word.size == 0) {
            throw new ArithmeticException("the word is empty");
        }
        return (float) desk.word.countOf(letter) / (float) desk.word.size;
    }

    public double discountedSum(double factor) throws IllegalArgumentException {
        // Written as a denial, because NaN is in no range and fails every comparison.
        if (!(factor >= -1.0 && factor <= 1.0)) {
            throw new IllegalArgumentException("the factor is out of range");
        }
        double sum = 0.0;
        double weight = 1.0;
        for (int position = 0; position < desk.word.size; position++) {
            sum = sum + (double) desk.word.get(position) * weight;
            weight = weight * factor;
        }
        return sum;
    }

    public double greatestExponent() throws IllegalStateException {
        requireWord();
        repetition.seek(desk.word);
        return (double) repetition.length / (double) repetition.period;
    }

    public int strongestFactor(int what) throws IllegalArgumentException, IllegalStateException {
        if (what < 0 || what > 2) {
            throw new IllegalArgumentException("what is out of range");
        }
        requireWord();
        repetition.seek(desk.word);
        return what == 0 ? repetition.start : what == 1 ? repetition.length : repetition.period;
    }

    // ---- occurrences

    public boolean avoids() throws IllegalStateException {
        requirePattern();
        return !occurs(desk.pattern, desk.word);
    }

    public int findOccurrence() throws IllegalStateException, NoSuchElementException {
        requirePattern();
        matcher.setPattern(desk.pattern);
        matcher.setText(desk.word);
        int start = matcher.firstStart();
        if (start < 0) {
            throw new NoSuchElementException("the word avoids the pattern");
        }
        remembered.take(matcher);
        return start;
    }

    public int imageLength(int variable) throws IllegalArgumentException, IllegalStateException {
        requireRemembered(variable);
        return remembered.images[variable].size;
    }

    public int imageLetter(int variable, int position)
            throws IllegalArgumentException, IllegalStateException, IndexOutOfBoundsException {
        requireRemembered(variable);
        if (!remembered.images[variable].has(position)) {
            throw new IndexOutOfBoundsException("no such position in the image");
        }
        return remembered.images[variable].get(position);
    }

    public int occurrenceCount() throws IllegalStateException {
        requirePattern();
        matcher.setPattern(desk.pattern);
        matcher.setText(desk.word);
        return matcher.countAll();
    }

    // ---- free sets and reductions

    public boolean areConnected(int right, int left) throws IllegalArgumentException {
        int all = desk.pattern.members();
        if (!holds(all, right) || !holds(all, left)) {
            throw new IllegalArgumentException("the pattern does not have this variable");
        }
        reducer.link(desk.pattern, all);
        return reducer.isLinked(right, left);
    }

    public boolean isFree(int set) throws IllegalArgumentException {
        requireSet(set);
        reducer.link(desk.pattern, desk.pattern.members());
        return reducer.isLoose(set);
    }

    public int freeSetCount() {
        return reducer.countLoose(desk.pattern);
    }

    public int freeSet(int index) throws IndexOutOfBoundsException {
        int set = reducer.looseSet(desk.pattern, index);
        if (set == 0) {
            throw new IndexOutOfBoundsException("no such free set");
        }
        return set;
    }

    public int delete(int set) throws IllegalArgumentException, IllegalStateException {
        requireSet(set);
        reducer.link(desk.pattern, desk.pattern.members());
        if (!reducer.isLoose(set)) {
            throw new IllegalStateException("the set is not free");
        }
        desk.pattern.removeAll(set);
        return desk.pattern.size;
    }

    public boolean isUnavoidable() {
        return reducer.countSteps(desk.pattern) < Reducer.NEVER;
    }

    public int reductionLength() throws NoSuchElementException {
        return requireReduction();
    }

    public int reductionSet(int index) throws NoSuchElementException, IndexOutOfBoundsException {
        int steps = requireReduction();
        if (index < 0 || index >= steps) {
            throw new IndexOutOfBoundsException("no such set in the reduction");
        }
        return reducer.step(desk.pattern.members(), index);
    }

    // ---- searches

    public int extend(int length)
            throws IllegalArgumentException, IllegalStateException, NoSuchElementException,
            UnsupportedOperationException {
        if (length < desk.word.size || length > LONGEST_WORD) {
            throw new IllegalArgumentException("the length is out of range");
        }
        requirePattern();
        if (occurs(desk.pattern, desk.word)) {
            throw new NoSuchElementException("the word does not avoid the pattern");
        }
        search.begin(desk.pattern, desk.letters, desk.word);
        boolean goesOn = true;
        for (int found = 0; found <= MOST_TRIALS && goesOn && search.word.size < length; found++) {
            goesOn = search.next(length);
        }
        if (search.isGivenUp) {
            throw new UnsupportedOperationException("the search is given up");
        }
        if (search.word.size < length) {
            throw new NoSuchElementException("there is no such word");
        }
        desk.word.become(search.word);
        return search.trials;
    }

    public int longestAvoiding(int limit)
            throws IllegalArgumentException, IllegalStateException, UnsupportedOperationException {
        if (limit < 1 || limit > LONGEST_LIMIT) {
            throw new IllegalArgumentException("the limit is out of range");
        }
        requirePattern();
        beginWithNothing();
        int longest = 0;
        for (int found = 0; found <= MOST_TRIALS && longest < limit && search.next(limit); found++) {
            longest = Math.max(longest, search.word.size);
        }
        requireEnd(search.isGivenUp);
        return longest;
    }

    public int countAvoiding(int length)
            throws IllegalArgumentException, IllegalStateException, UnsupportedOperationException {
        if (length < 0 || length > LONGEST_COUNTED) {
            throw new IllegalArgumentException("the length is out of range");
        }
        requirePattern();
        int count = countWords(length);
        requireEnd(count == GIVEN_UP);
        return count;
    }

    public double growth(int length)
            throws IllegalArgumentException, IllegalStateException, UnsupportedOperationException,
            ArithmeticException {
        if (length < 1 || length > LONGEST_COUNTED) {
            throw new IllegalArgumentException("the length is out of range");
        }
        requirePattern();
        int count = countWords(length);
        int before = countWords(length - 1);
        requireEnd(count == GIVEN_UP || before == GIVEN_UP);
        if (before == 0) {
            throw new ArithmeticException("no shorter word avoids the pattern");
        }
        return (double) count / (double) before;
    }

    // ---- the morphism

    public int appendImage(int letter, int appended) throws IllegalArgumentException, IllegalStateException {
        requireLetter(letter);
        requireLetter(appended);
        Row image = desk.morphism.images[letter];
        if (image.size >= LONGEST_IMAGE) {
            throw new IllegalStateException("the image is full");
        }
        image.add(appended);
        return image.size;
    }

    public int clearImage(int letter) throws IllegalArgumentException {
        requireLetter(letter);
        Row image = desk.morphism.images[letter];
        int previous = image.size;
        image.clear();
        return previous;
    }

    public int applyMorphism() throws IllegalStateException {
        if (!desk.morphism.change(desk.word, result)) {
            throw new IllegalStateException("the result is too long");
        }
        desk.word.become(result);
        return desk.word.size;
    }

    public int iterate(int letter, int times) throws IllegalArgumentException, IllegalStateException {
        requireLetter(letter);
        if (times < 0 || times > MOST_TIMES) {
            throw new IllegalArgumentException("times is out of range");
        }
        draft.clear();
        draft.add(letter);
        for (int time = 0; time < times; time++) {
            if (!desk.morphism.change(draft, result)) {
                throw new IllegalStateException("a result is too long");
            }
            draft.become(result);
        }
        desk.word.become(draft);
        return desk.word.size;
    }

    public int findMorphism(int imageLength, int testLength)
            throws IllegalArgumentException, IllegalStateException, UnsupportedOperationException,
            NoSuchElementException {
        if (imageLength < 1 || imageLength > LONGEST_FOUND_IMAGE || testLength < 1 || testLength > LONGEST_TEST) {
            throw new IllegalArgumentException("a length is out of range");
        }
        requirePattern();
        candidate.becomeFirst(desk.letters, imageLength);
        boolean goesOn = true;
        for (int examined = 1; examined <= MOST_MORPHISMS && goesOn; examined++) {
            if (countSpoiledBy(candidate, testLength) == 0) {
                desk.morphism.become(candidate);
                return examined;
            }
            goesOn = candidate.becomeNext(desk.letters);
        }
        if (goesOn) {
            throw new UnsupportedOperationException("too many morphisms");
        }
        throw new NoSuchElementException("there is no suitable morphism");
    }

    public int countSpoiled(int length)
            throws IllegalArgumentException, IllegalStateException, UnsupportedOperationException {
        if (length < 0 || length > LONGEST_SPOILED) {
            throw new IllegalArgumentException("the length is out of range");
        }
        requirePattern();
        int count = countSpoiledBy(desk.morphism, length);
        requireEnd(count == GIVEN_UP);
        return count;
    }

    // ---- the snapshot

    public int save() {
        saved.become(desk);
        isSaved = true;
        return desk.word.size;
    }

    public int restore() throws IllegalStateException {
        if (!isSaved) {
            throw new IllegalStateException("nothing was saved");
        }
        desk.become(saved);
        return desk.word.size;
    }

    // ---- what a call may ask for

    private static boolean isVariable(int variable) {
        return variable >= 0 && variable < VARIABLES;
    }

    private static boolean holds(int set, int variable) {
        // A shift takes its distance modulo 32: without the first test, 32 would stand for variable 0.
        return isVariable(variable) && (set & (1 << variable)) != 0;
    }

    private static void requireZimin(int number) {
        if (number < 1 || number > MOST_ZIMIN) {
            throw new IllegalArgumentException("the number of the Zimin word is out of range");
        }
    }

    private static void requireShelf(int shelf) {
        if (shelf < 0 || shelf >= SHELVES) {
            throw new IndexOutOfBoundsException("no such shelf");
        }
    }

    private void requireFilled(int shelf) {
        requireShelf(shelf);
        if (!isFilled[shelf]) {
            throw new IllegalStateException("the shelf is empty");
        }
    }

    private void requireLetter(int letter) {
        if (letter < 0 || letter >= desk.letters) {
            throw new IllegalArgumentException("no such letter");
        }
    }

    private void requirePattern() {
        if (desk.pattern.size == 0) {
            throw new IllegalStateException("the pattern is empty");
        }
    }

    private void requireWord() {
        if (desk.word.size == 0) {
            throw new IllegalStateException("the word is empty");
        }
    }

    private void requireRemembered(int variable) {
        if (!isVariable(variable)) {
            throw new IllegalArgumentException("no such variable");
        }
        if (!remembered.isKnown) {
            throw new IllegalStateException("no occurrence is remembered");
        }
    }

    private void requireSet(int set) {
        if (set == 0 || (set & ~desk.pattern.members()) != 0) {
            throw new IllegalArgumentException("not a set of variables of the pattern");
        }
    }

    private int requireReduction() {
        int steps = reducer.countSteps(desk.pattern);
        if (steps >= Reducer.NEVER) {
            throw new NoSuchElementException("the pattern is not unavoidable");
        }
        return steps;
    }

    private static void requireEnd(boolean isGivenUp) {
        if (isGivenUp) {
            throw new UnsupportedOperationException("the search is given up");
        }
    }

    // ---- what several calls do

    private boolean changePattern(Row other) {
        boolean isChange = !desk.pattern.isSame(other);
        desk.pattern.become(other);
        return isChange;
    }

    private boolean occurs(Row pattern, Row text) {
        matcher.setPattern(pattern);
        matcher.setText(text);
        return matcher.firstStart() >= 0;
    }

    private void beginWithNothing() {
        draft.clear();
        search.begin(desk.pattern, desk.letters, draft);
    }

    private int countWords(int length) {
        beginWithNothing();
        // The word that a search begins with is not among those that it finds.
        int count = length == 0 ? 1 : 0;
        for (int found = 0; found <= MOST_TRIALS && search.next(length); found++) {
            if (search.word.size == length) {
                count++;
            }
        }
        return search.isGivenUp ? GIVEN_UP : count;
    }

    private int countSpoiledBy(Morphism morphism, int length) {
        beginWithNothing();
        matcher.setPattern(desk.pattern);
        // The empty word is never spoiled, so the word that the search begins with need not be looked at.
        int count = 0;
        for (int found = 0; found <= MOST_TRIALS && search.next(length); found++) {
            if (search.word.size == length && spoils(morphism, search.word)) {
                count++;
            }
        }
        return search.isGivenUp ? GIVEN_UP : count;
    }

    private boolean spoils(Morphism morphism, Row word) {
        // At most 5 letters with images of at most 4 letters: the result always has room.
        if (!morphism.change(word, result)) {
            return false;
        }
        matcher.setText(result);
        return matcher.firstStart() >= 0;
    }

    /** A pattern, a word or an image: small numbers in their order. */
    private static final class Row {
        private final int[] items = new int[LONGEST_WORD];
        private int size = 0;

        private boolean has(int index) {
            return index >= 0 && index < size;
        }

        private int get(int index) {
            return has(index) ? items[index] : 0;
        }

        private void set(int index, int item) {
            if (has(index)) {
                items[index] = item;
            }
        }

        private void add(int item) {
            if (size < LONGEST_WORD) {
                items[size] = item;
                size++;
            }
        }

        private void dropLast() {
            if (size > 0) {
                size--;
            }
        }

        private void clear() {
            size = 0;
        }

        private void become(Row other) {
            System.arraycopy(other.items, 0, items, 0, other.size);
            size = other.size;
        }

        private void becomeZeros(int length) {
            clear();
            for (int i = 0; i < length; i++) {
                add(0);
            }
        }

        private void becomeReverse(Row other) {
            clear();
            for (int i = other.size - 1; i >= 0; i--) {
                add(other.get(i));
            }
        }

        private void becomeCanonical(Row other) {
            clear();
            int names = 0;
            for (int i = 0; i < other.size; i++) {
                int first = other.indexOf(other.get(i));
                if (first < i) {
                    add(get(first));
                } else {
                    add(names);
                    names++;
                }
            }
        }

        private void becomeZimin(int number) {
            clear();
            for (int variable = 0; variable < number; variable++) {
                int half = size;
                add(variable);
                for (int i = 0; i < half; i++) {
                    add(get(i));
                }
            }
        }

        private void removeAll(int set) {
            int kept = 0;
            for (int i = 0; i < size; i++) {
                if (!holds(set, items[i])) {
                    items[kept] = items[i];
                    kept++;
                }
            }
            size = kept;
        }

        private boolean isSame(Row other) {
            if (size != other.size) {
                return false;
            }
            for (int i = 0; i < size; i++) {
                if (items[i] != other.items[i]) {
                    return false;
                }
            }
            return true;
        }

        private int indexOf(int item) {
            for (int i = 0; i < size; i++) {
                if (items[i] == item) {
                    return i;
                }
            }
            return size;
        }

        private int countOf(int item) {
            int count = 0;
            for (int i = 0; i < size; i++) {
                if (items[i] == item) {
                    count++;
                }
            }
            return count;
        }

        /** The set of the variables in the row. */
        private int members() {
            int set = 0;
            for (int i = 0; i < size; i++) {
                set |= isVariable(items[i]) ? 1 << items[i] : 0;
            }
            return set;
        }
    }

    /** The images of the letters. */
    private static final class Morphism {
        private final Row[] images = new Row[MOST_LETTERS];

        private Morphism() {
            for (int letter = 0; letter < MOST_LETTERS; letter++) {
                images[letter] = new Row();
            }
        }

        private void clear() {
            for (int letter = 0; letter < MOST_LETTERS; letter++) {
                images[letter].clear();
            }
        }

        private void become(Morphism other) {
            for (int letter = 0; letter < MOST_LETTERS; letter++) {
                images[letter].become(other.images[letter]);
            }
        }

        private void becomeFirst(int letters, int imageLength) {
            for (int letter = 0; letter < MOST_LETTERS; letter++) {
                images[letter].becomeZeros(letter < letters ? imageLength : 0);
            }
        }

        /** Goes on to the next morphism in the order of the joined images; false behind the last one. */
        private boolean becomeNext(int letters) {
            for (int letter = MOST_LETTERS - 1; letter >= 0; letter--) {
                Row image = images[letter];
                for (int i = image.size - 1; i >= 0; i--) {
                    if (image.get(i) + 1 < letters) {
                        image.set(i, image.get(i) + 1);
                        return true;
                    }
                    image.set(i, 0);
                }
            }
            return false;
        }

        /** Writes the changed word into another row; false if it has no room there. */
        private boolean change(Row word, Row changed) {
            changed.clear();
            for (int i = 0; i < word.size; i++) {
                int letter = word.get(i);
                if (letter < 0 || letter >= MOST_LETTERS || changed.size + images[letter].size > LONGEST_WORD) {
                    return false;
                }
                Row image = images[letter];
                for (int j = 0; j < image.size; j++) {
                    changed.add(image.get(j));
                }
            }
            return true;
        }
    }

    /** All that a snapshot holds. */
    private static final class Desk {
        private int letters = FEWEST_LETTERS;
        private final Row pattern = new Row();
        private final Row word = new Row();
        private final Morphism morphism = new Morphism();

        private void become(Desk other) {
            letters = other.letters;
            pattern.become(other.pattern);
            word.become(other.word);
            morphism.become(other.morphism);
        }
    }

    /** The images of the variables, kept apart from the word in which they were found. */
    private static final class Occurrence {
        private boolean isKnown = false;
        private final Row[] images = new Row[VARIABLES];

        private Occurrence() {
            for (int variable = 0; variable < VARIABLES; variable++) {
                images[variable] = new Row();
            }
        }

        private void take(Matcher matcher) {
            isKnown = true;
            for (int variable = 0; variable < VARIABLES; variable++) {
                images[variable].clear();
                for (int i = 0; i < matcher.lengths[variable]; i++) {
                    images[variable].add(matcher.text.get(matcher.starts[variable] + i));
                }
            }
        }
    }

    /**
     * Looks for a pattern in a text. What a part of the pattern needs at least, with 1 for each image whose length is
     * still open, always fits into the rest of the text; "slack" is how many letters of the text are then left over.
     */
    private static final class Matcher {
        private final Row pattern = new Row();
        private final Row text = new Row();
        private final int[] times = new int[VARIABLES];
        /** How many variables from a position on, one after the other, stand in the pattern only once. */
        private final int[] singles = new int[LONGEST_WORD];
        /** The longest images that the search for the first occurrence needs. */
        private final int[] longest = new int[VARIABLES];
        private final int[] starts = new int[VARIABLES];
        /** 0 for an image whose length is open. */
        private final int[] lengths = new int[VARIABLES];

        private void setPattern(Row newPattern) {
            pattern.become(newPattern);
            for (int variable = 0; variable < VARIABLES; variable++) {
                times[variable] = pattern.countOf(variable);
            }
            int run = 0;
            for (int at = pattern.size - 1; at >= 0; at--) {
                run = times[variableAt(at)] == 1 ? run + 1 : 0;
                singles[at] = run;
            }
            limitLengths();
        }

        /**
         * A variable that is always followed by a variable that stands once, or by nothing, needs one letter in the
         * first occurrence: if it had more, the images behind it could take them, and that occurrence comes earlier.
         */
        private void limitLengths() {
            for (int variable = 0; variable < VARIABLES; variable++) {
                longest[variable] = 1;
            }
            for (int at = 0; at + 1 < pattern.size; at++) {
                if (singles[at + 1] == 0) {
                    longest[variableAt(at)] = LONGEST_WORD;
                }
            }
        }

        private void setText(Row newText) {
            text.become(newText);
        }

        /**
         * What stands in the pattern is an index of several rows here, so it is looked at before it is used as one; the
         * test stands here itself, because calls go deep enough already.
         */
        private int variableAt(int at) {
            int variable = at >= 0 && at < pattern.size ? pattern.items[at] : 0;
            return variable >= 0 && variable < VARIABLES ? variable : 0;
        }

        /** The start of the first occurrence, whose images stand in starts and lengths then; -1 if there is none. */
        private int firstStart() {
            // A first image that is used once can be made longer to the left: there is an occurrence at 0, or none.
            int last = singles[0] > 0 ? 0 : text.size - pattern.size;
            for (int start = 0; start <= last; start++) {
                if (standsAt(start)) {
                    return start;
                }
            }
            return -1;
        }

        private boolean standsAt(int start) {
            forgetLengths();
            int slack = text.size - start - pattern.size;
            return slack >= 0 && fits(0, start, slack);
        }

        private int countAll() {
            forgetLengths();
            int count = 0;
            for (int start = 0; start + pattern.size <= text.size; start++) {
                count += countFrom(0, start, text.size - start - pattern.size);
            }
            return count;
        }

        private void forgetLengths() {
            for (int variable = 0; variable < VARIABLES; variable++) {
                lengths[variable] = 0;
            }
        }

        /** Whether the pattern from one position on fits the text from another on; smaller lengths are tried first. */
        private boolean fits(int at, int from, int slack) {
            if (at >= pattern.size) {
                return true;
            }
            int variable = variableAt(at);
            if (lengths[variable] > 0) {
                return repeats(variable, from) && fits(at + 1, from + lengths[variable], slack);
            }
            starts[variable] = from;
            int left = slack;
            for (int length = 1; length <= longest[variable] && left >= 0; length++) {
                lengths[variable] = length;
                if (fits(at + 1, from + length, left)) {
                    return true;
                }
                left -= times[variable];
            }
            lengths[variable] = 0;
            return false;
        }

        private int countFrom(int at, int from, int slack) {
            if (at >= pattern.size) {
                return 1;
            }
            if (singles[at] > 0) {
                return countRun(at, from, slack);
            }
            int variable = variableAt(at);
            if (lengths[variable] > 0) {
                return repeats(variable, from) ? countFrom(at + 1, from + lengths[variable], slack) : 0;
            }
            starts[variable] = from;
            int count = 0;
            int left = slack;
            for (int length = 1; length <= LONGEST_WORD && left >= 0; length++) {
                lengths[variable] = length;
                count += countFrom(at + 1, from + length, left);
                left -= times[variable];
            }
            lengths[variable] = 0;
            return count;
        }

        /**
         * Counts the ways to share out letters to images that are used once, instead of trying them one by one: there
         * can be more than a hundred thousand.
         */
        private int countRun(int at, int from, int slack) {
            int run = singles[at];
            if (at + run >= pattern.size) {
                return choose(slack + run, run);
            }
            int count = 0;
            for (int more = 0; more <= slack; more++) {
                int rest = countFrom(at + run, from + run + more, slack - more);
                count += rest == 0 ? 0 : rest * choose(run - 1 + more, run - 1);
            }
            return count;
        }

        private static int choose(int all, int taken) {
            int ways = 1;
            for (int i = 1; i <= taken; i++) {
                ways = ways * (all - taken + i) / i;
            }
            return ways;
        }

        private boolean repeats(int variable, int from) {
            int start = starts[variable];
            int length = lengths[variable];
            if (start < 0 || from < start || from + length > text.size) {
                return false;
            }
            for (int i = 0; i < length; i++) {
                if (text.items[start + i] != text.items[from + i]) {
                    return false;
                }
            }
            return true;
        }
    }

    /**
     * Goes through the words that avoid a pattern. A word that is made longer by one letter has a new occurrence only
     * at its end; so the mirrored word grows to the left in front of a fixed end, and the mirrored pattern is looked
     * for at its start alone.
     */
    private static final class Search {
        /** Each turn takes a trial or one of the letters back. */
        private static final int MOST_TURNS = MOST_TRIALS + LONGEST_WORD + 2;

        private final Matcher matcher = new Matcher();
        private final Row mirrored = new Row();
        private final Row word = new Row();
        private int shortest = 0;
        private int letters = FEWEST_LETTERS;
        private int trials = 0;
        private boolean isGivenUp = false;

        private void begin(Row pattern, int letterCount, Row firstWord) {
            mirrored.becomeReverse(pattern);
            matcher.setPattern(mirrored);
            matcher.text.becomeZeros(LONGEST_WORD);
            word.clear();
            for (int i = 0; i < firstWord.size; i++) {
                put(firstWord.get(i));
            }
            shortest = firstWord.size;
            letters = letterCount;
            trials = 0;
            isGivenUp = false;
        }

        private void put(int letter) {
            word.add(letter);
            matcher.text.set(LONGEST_WORD - word.size, letter);
        }

        /** Goes on to the next word that avoids the pattern and is not too long; false if there is none. */
        private boolean next(int longest) {
            int letter = word.size < longest ? 0 : letters;
            for (int turn = 0; turn < MOST_TURNS; turn++) {
                if (letter >= letters) {
                    if (word.size <= shortest) {
                        return false;
                    }
                    letter = word.get(word.size - 1) + 1;
                    word.dropLast();
                } else if (trials >= MOST_TRIALS) {
                    isGivenUp = true;
                    return false;
                } else {
                    trials++;
                    put(letter);
                    if (!matcher.standsAt(LONGEST_WORD - word.size)) {
                        return true;
                    }
                    word.dropLast();
                    letter++;
                }
            }
            return false;
        }
    }

    /** The adjacency of the variables, and the free sets and reductions that follow from it. */
    private static final class Reducer {
        /** More sets than any reduction has. */
        private static final int NEVER = 100;

        /** For the right side of each variable, the variables whose left sides are connected to it. */
        private final int[] lefts = new int[VARIABLES];
        /** For each set of variables that are left, the number of sets of the least reduction, and its first set. */
        private final int[] fewest = new int[SETS];
        private final int[] chosen = new int[SETS];

        /** Links the sides of the variables of a set, in the pattern that has these variables alone. */
        private void link(Row pattern, int kept) {
            for (int variable = 0; variable < VARIABLES; variable++) {
                lefts[variable] = 0;
            }
            int before = -1;
            for (int i = 0; i < pattern.size; i++) {
                int variable = pattern.get(i);
                if (holds(kept, variable)) {
                    if (before >= 0) {
                        lefts[before] |= 1 << variable;
                    }
                    before = variable;
                }
            }
            // Once all that meet at a left side share one set, they share it for good: one round is enough.
            for (int variable = 0; variable < VARIABLES; variable++) {
                joinAt(variable);
            }
        }

        private void joinAt(int left) {
            int joined = 0;
            for (int right = 0; right < VARIABLES; right++) {
                if (holds(lefts[right], left)) {
                    joined |= lefts[right];
                }
            }
            for (int right = 0; right < VARIABLES; right++) {
                if (holds(lefts[right], left)) {
                    lefts[right] = joined;
                }
            }
        }

        private boolean isLinked(int right, int left) {
            return holds(lefts[right], left);
        }

        private boolean isLoose(int set) {
            for (int right = 0; right < VARIABLES; right++) {
                if (holds(set, right) && (lefts[right] & set) != 0) {
                    return false;
                }
            }
            return true;
        }

        private int countLoose(Row pattern) {
            int all = pattern.members();
            link(pattern, all);
            int count = 0;
            for (int set = 1; set <= all; set++) {
                if ((set & ~all) == 0 && isLoose(set)) {
                    count++;
                }
            }
            return count;
        }

        /** The free set with this index; 0 if there is none. */
        private int looseSet(Row pattern, int index) {
            int all = pattern.members();
            link(pattern, all);
            int ahead = index;
            for (int set = 1; set <= all && ahead >= 0; set++) {
                if ((set & ~all) == 0 && isLoose(set)) {
                    if (ahead == 0) {
                        return set;
                    }
                    ahead--;
                }
            }
            return 0;
        }

        /** The number of sets of the least reduction, or NEVER; its steps can be asked for then. */
        private int countSteps(Row pattern) {
            int all = pattern.members();
            fewest[0] = 0;
            chosen[0] = 0;
            // What a deletion leaves is a smaller integer, which has been seen to before.
            for (int kept = 1; kept <= all; kept++) {
                if ((kept & ~all) == 0) {
                    link(pattern, kept);
                    chooseFirst(kept);
                }
            }
            return fewest[all];
        }

        private void chooseFirst(int kept) {
            fewest[kept] = NEVER;
            chosen[kept] = 0;
            for (int set = 1; set <= kept; set++) {
                if ((set & ~kept) == 0 && isLoose(set) && fewest[kept & ~set] + 1 < fewest[kept]) {
                    fewest[kept] = fewest[kept & ~set] + 1;
                    chosen[kept] = set;
                }
            }
        }

        private int step(int all, int index) {
            int kept = all;
            for (int i = 0; i < index && kept != 0; i++) {
                kept &= ~chosen[kept];
            }
            return chosen[kept];
        }
    }

    /** The strongest factor of a word. */
    private static final class Repetition {
        private int start = 0;
        private int length = 1;
        private int period = 1;

        /**
         * Only the longest factor with a start and a period needs a look. A period that is not the smallest one makes
         * an exponent look smaller than it is, so the greatest exponent is still met first with its smallest period.
         */
        private void seek(Row word) {
            start = 0;
            length = 1;
            period = 1;
            for (int from = 0; from < word.size; from++) {
                for (int distance = 1; from + distance <= word.size; distance++) {
                    int end = from + distance;
                    while (end < word.size && word.get(end) == word.get(end - distance)) {
                        end++;
                    }
                    if ((end - from) * period > length * distance) {
                        start = from;
                        length = end - from;
                        period = distance;
                    }
                }
            }
        }
    }
}
