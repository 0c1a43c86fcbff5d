import java.util.ArrayList;
import java.util.Arrays;
import java.util.List;
import java.util.NoSuchElementException;
import java.util.Random;
import java.util.Set;
import java.util.TreeSet;

/**
 * Runs of random calls, with fixed seeds, against a second laboratory that does what the document says in the most
 * literal way, without any of the short cuts of the class.
 */
public final class OracleTest {
    /** The document, word by word. */
    private static final class Plain {
        int k = 2;
        List<Integer> pattern = new ArrayList<>();
        List<Integer> word = new ArrayList<>();
        List<List<Integer>> images = emptyImages();
        final List<List<Integer>> shelves = new ArrayList<>(Arrays.asList(null, null, null, null));
        List<List<Integer>> remembered = null;
        Plain saved = null;
        int trials;

        static List<List<Integer>> emptyImages() {
            List<List<Integer>> all = new ArrayList<>();
            for (int i = 0; i < 4; i++) {
                all.add(new ArrayList<>());
            }
            return all;
        }

        static List<List<Integer>> copyOf(List<List<Integer>> images) {
            List<List<Integer>> all = new ArrayList<>();
            for (List<Integer> image : images) {
                all.add(new ArrayList<>(image));
            }
            return all;
        }

        static void check(boolean good, RuntimeException otherwise) {
            if (!good) {
                throw otherwise;
            }
        }

        static IllegalArgumentException argument() {
            return new IllegalArgumentException();
        }

        static IllegalStateException state() {
            return new IllegalStateException();
        }

        static IndexOutOfBoundsException index() {
            return new IndexOutOfBoundsException();
        }

        static NoSuchElementException none() {
            return new NoSuchElementException();
        }

        static UnsupportedOperationException unsupported() {
            return new UnsupportedOperationException();
        }

        static boolean in(int number, int least, int most) {
            return number >= least && number <= most;
        }

        boolean isLetter(int letter) {
            return in(letter, 0, k - 1);
        }

        // ---- occurrences

        static List<Integer> order(List<Integer> pattern) {
            List<Integer> order = new ArrayList<>();
            for (int variable : pattern) {
                if (!order.contains(variable)) {
                    order.add(variable);
                }
            }
            return order;
        }

        /** Tries all lengths in their order; the last ones are tried only when all before them have been chosen. */
        static int occurrences(List<Integer> pattern, List<Integer> text, boolean all, int[] found) {
            List<Integer> order = order(pattern);
            int count = 0;
            for (int start = 0; start < text.size(); start++) {
                int[] lengths = new int[5];
                count += choose(pattern, text, start, order, 0, lengths, all, found);
                if (count > 0 && !all) {
                    return count;
                }
            }
            return count;
        }

        static int choose(List<Integer> pattern, List<Integer> text, int start, List<Integer> order, int next,
                int[] lengths, boolean all, int[] found) {
            if (!fitsSoFar(pattern, text, start, lengths)) {
                return 0;
            }
            if (next == order.size()) {
                if (found != null && !all) {
                    found[0] = start;
                    System.arraycopy(lengths, 0, found, 1, 5);
                }
                return 1;
            }
            int count = 0;
            for (int length = 1; start + length <= text.size(); length++) {
                lengths[order.get(next)] = length;
                count += choose(pattern, text, start, order, next + 1, lengths, all, found);
                if (count > 0 && !all) {
                    return count;
                }
            }
            lengths[order.get(next)] = 0;
            return count;
        }

        static boolean fitsSoFar(List<Integer> pattern, List<Integer> text, int start, int[] lengths) {
            List<List<Integer>> images = new ArrayList<>(Arrays.asList(null, null, null, null, null));
            int at = start;
            for (int variable : pattern) {
                if (lengths[variable] == 0) {
                    return true;
                }
                int end = at + lengths[variable];
                if (end > text.size()) {
                    return false;
                }
                List<Integer> piece = text.subList(at, end);
                if (images.get(variable) == null) {
                    images.set(variable, piece);
                } else if (!images.get(variable).equals(piece)) {
                    return false;
                }
                at = end;
            }
            return true;
        }

        static boolean occurs(List<Integer> pattern, List<Integer> text) {
            return occurrences(pattern, text, false, null) > 0;
        }

        static List<Integer> zimin(int number) {
            if (number == 1) {
                return new ArrayList<>(List.of(0));
            }
            List<Integer> half = zimin(number - 1);
            List<Integer> word = new ArrayList<>(half);
            word.add(number - 1);
            word.addAll(half);
            return word;
        }

        // ---- free sets

        static boolean connected(List<Integer> pattern, int right, int left) {
            boolean[] reached = new boolean[10];
            reached[right] = true;
            for (int round = 0; round < 10; round++) {
                for (int i = 0; i + 1 < pattern.size(); i++) {
                    int a = pattern.get(i);
                    int b = 5 + pattern.get(i + 1);
                    if (reached[a] || reached[b]) {
                        reached[a] = true;
                        reached[b] = true;
                    }
                }
            }
            return reached[5 + left];
        }

        static int set(List<Integer> pattern) {
            int set = 0;
            for (int variable : pattern) {
                set |= 1 << variable;
            }
            return set;
        }

        static boolean free(List<Integer> pattern, int set) {
            for (int x = 0; x < 5; x++) {
                for (int y = 0; y < 5; y++) {
                    if ((set >> x & 1) == 1 && (set >> y & 1) == 1 && connected(pattern, x, y)) {
                        return false;
                    }
                }
            }
            return true;
        }

        static List<Integer> freeSets(List<Integer> pattern) {
            List<Integer> sets = new ArrayList<>();
            for (int set = 1; set < 32; set++) {
                if ((set & ~set(pattern)) == 0 && free(pattern, set)) {
                    sets.add(set);
                }
            }
            return sets;
        }

        static List<Integer> without(List<Integer> pattern, int set) {
            List<Integer> rest = new ArrayList<>();
            for (int variable : pattern) {
                if ((set >> variable & 1) == 0) {
                    rest.add(variable);
                }
            }
            return rest;
        }

        /** Looks at all reductions; null if there is none. */
        static List<Integer> reduction(List<Integer> pattern) {
            if (pattern.isEmpty()) {
                return new ArrayList<>();
            }
            List<Integer> best = null;
            for (int set : freeSets(pattern)) {
                List<Integer> rest = reduction(without(pattern, set));
                if (rest != null && (best == null || rest.size() + 1 < best.size())) {
                    best = new ArrayList<>(List.of(set));
                    best.addAll(rest);
                }
            }
            return best;
        }

        // ---- searches

        interface Visitor {
            boolean isEnd(List<Integer> word);
        }

        boolean search(List<Integer> word, int longest, Visitor visitor) {
            if (visitor.isEnd(word)) {
                return true;
            }
            if (word.size() == longest) {
                return false;
            }
            for (int letter = 0; letter < k; letter++) {
                trials++;
                check(trials <= 1500, unsupported());
                List<Integer> longer = new ArrayList<>(word);
                longer.add(letter);
                if (!occurs(pattern, longer) && search(longer, longest, visitor)) {
                    return true;
                }
            }
            return false;
        }

        int count(int length, List<List<Integer>> spoilers) {
            trials = 0;
            int[] count = new int[1];
            search(new ArrayList<>(), length, w -> {
                if (w.size() == length && (spoilers == null || occurs(pattern, change(w, spoilers)))) {
                    count[0]++;
                }
                return false;
            });
            return count[0];
        }

        static List<Integer> change(List<Integer> word, List<List<Integer>> images) {
            List<Integer> changed = new ArrayList<>();
            for (int letter : word) {
                changed.addAll(images.get(letter));
            }
            return changed;
        }

        // ---- exponents

        static int smallestPeriod(List<Integer> factor) {
            for (int p = 1; p < factor.size(); p++) {
                boolean isPeriod = true;
                for (int i = 0; i + p < factor.size(); i++) {
                    isPeriod &= factor.get(i).equals(factor.get(i + p));
                }
                if (isPeriod) {
                    return p;
                }
            }
            return factor.size();
        }

        int[] strongest() {
            int[] best = null;
            for (int start = 0; start < word.size(); start++) {
                for (int length = 1; start + length <= word.size(); length++) {
                    int p = smallestPeriod(word.subList(start, start + length));
                    if (best == null || length * best[2] > best[1] * p) {
                        best = new int[] {start, length, p};
                    }
                }
            }
            return best;
        }

        // ---- the calls, by their numbers as promises

        Object call(int promise, int a, int b, double d) {
            if (promise <= 14) {
                return onPattern(promise, a);
            }
            if (promise <= 23) {
                return onWord(promise, a, d);
            }
            if (promise <= 36) {
                return promise <= 28 ? onOccurrence(promise, a, b) : onSets(promise, a, b);
            }
            return promise <= 40 ? onSearch(promise, a) : onMorphism(promise, a, b);
        }

        Object onPattern(int promise, int a) {
            List<Integer> before = new ArrayList<>(pattern);
            switch (promise) {
                case 2:
                    check(in(a, 0, 4), argument());
                    check(pattern.size() < 15, state());
                    pattern.add(a);
                    return pattern.size();
                case 3:
                    pattern.clear();
                    return before.size();
                case 4:
                    return pattern.size();
                case 5:
                    check(in(a, 0, pattern.size() - 1), index());
                    return pattern.get(a);
                case 6:
                    return set(pattern);
                case 7:
                    check(in(a, 1, 4), argument());
                    pattern = zimin(a);
                    return pattern.size();
                case 8:
                    pattern.replaceAll(order(before)::indexOf);
                    return !pattern.equals(before);
                case 9:
                    java.util.Collections.reverse(pattern);
                    return !pattern.equals(before);
                case 10:
                    check(in(a, 1, 4), argument());
                    check(!pattern.isEmpty(), state());
                    return occurs(pattern, zimin(a));
                case 11:
                    check(in(a, 0, 3), index());
                    shelves.set(a, before);
                    return before.size();
                case 12:
                    check(in(a, 0, 3), index());
                    check(shelves.get(a) != null, state());
                    pattern = new ArrayList<>(shelves.get(a));
                    return pattern.size();
                case 13:
                    check(in(a, 0, 3), index());
                    check(shelves.get(a) != null, state());
                    return isomorphic(pattern, shelves.get(a));
                default:
                    check(in(a, 0, 3), index());
                    check(shelves.get(a) != null && !shelves.get(a).isEmpty(), state());
                    return occurs(shelves.get(a), pattern);
            }
        }

        static boolean isomorphic(List<Integer> one, List<Integer> other) {
            if (one.size() != other.size()) {
                return false;
            }
            for (int i = 0; i < one.size(); i++) {
                for (int j = 0; j < i; j++) {
                    if (one.get(i).equals(one.get(j)) != other.get(i).equals(other.get(j))) {
                        return false;
                    }
                }
            }
            return true;
        }

        Object onWord(int promise, int a, double d) {
            int length = word.size();
            switch (promise) {
                case 15:
                    check(in(a, 2, 4), argument());
                    int previous = k;
                    k = a;
                    word.clear();
                    images = emptyImages();
                    return previous;
                case 16:
                    check(isLetter(a), argument());
                    check(length < 24, state());
                    word.add(a);
                    return word.size();
                case 17:
                    word.clear();
                    return length;
                case 18:
                    return length;
                case 19:
                    check(in(a, 0, length - 1), index());
                    return word.get(a);
                case 20:
                    check(isLetter(a), argument());
                    check(length > 0, new ArithmeticException());
                    return (float) java.util.Collections.frequency(word, a) / (float) length;
                case 21:
                    check(d >= -1 && d <= 1, argument());
                    double sum = 0;
                    double weight = 1;
                    for (int letter : word) {
                        sum += letter * weight;
                        weight *= d;
                    }
                    return sum;
                case 22:
                    check(length > 0, state());
                    return (double) strongest()[1] / strongest()[2];
                default:
                    check(in(a, 0, 2), argument());
                    check(length > 0, state());
                    return strongest()[a];
            }
        }

        Object onOccurrence(int promise, int a, int b) {
            if (promise == 26 || promise == 27) {
                check(in(a, 0, 4), argument());
                check(remembered != null, state());
                List<Integer> image = remembered.get(a);
                check(promise == 26 || in(b, 0, image.size() - 1), index());
                return promise == 26 ? image.size() : image.get(b);
            }
            check(!pattern.isEmpty(), state());
            if (promise == 24) {
                return !occurs(pattern, word);
            }
            if (promise == 28) {
                return occurrences(pattern, word, true, null);
            }
            int[] found = new int[6];
            check(occurrences(pattern, word, false, found) > 0, none());
            remembered = new ArrayList<>(emptyImages());
            remembered.add(new ArrayList<>());
            int at = found[0];
            for (int variable : pattern) {
                remembered.set(variable, new ArrayList<>(word.subList(at, at + found[1 + variable])));
                at += found[1 + variable];
            }
            return found[0];
        }

        Object onSets(int promise, int a, int b) {
            int all = set(pattern);
            switch (promise) {
                case 29:
                    check(pattern.contains(a) && pattern.contains(b), argument());
                    return connected(pattern, a, b);
                case 30:
                    check(a != 0 && (a & ~all) == 0, argument());
                    return free(pattern, a);
                case 31:
                    return freeSets(pattern).size();
                case 32:
                    check(in(a, 0, freeSets(pattern).size() - 1), index());
                    return freeSets(pattern).get(a);
                case 33:
                    check(a != 0 && (a & ~all) == 0, argument());
                    check(free(pattern, a), state());
                    pattern = without(pattern, a);
                    return pattern.size();
                case 34:
                    return reduction(pattern) != null;
                default:
                    List<Integer> least = reduction(pattern);
                    check(least != null, none());
                    check(promise == 35 || in(a, 0, least.size() - 1), index());
                    return promise == 35 ? least.size() : least.get(a);
            }
        }

        Object onSearch(int promise, int a) {
            int least = promise == 37 ? word.size() : promise == 39 ? 0 : 1;
            check(in(a, least, promise == 37 ? 24 : promise == 38 ? 20 : 10), argument());
            check(!pattern.isEmpty(), state());
            trials = 0;
            if (promise == 37) {
                check(!occurs(pattern, word), none());
                List<List<Integer>> found = new ArrayList<>();
                check(search(word, a, w -> w.size() == a && found.add(w)), none());
                word = new ArrayList<>(found.get(0));
                return trials;
            }
            if (promise == 38) {
                int[] longest = new int[1];
                search(new ArrayList<>(), a, w -> {
                    longest[0] = Math.max(longest[0], w.size());
                    return w.size() == a;
                });
                return longest[0];
            }
            if (promise == 39) {
                return count(a, null);
            }
            int upper = count(a, null);
            int lower = count(a - 1, null);
            check(lower != 0, new ArithmeticException());
            return (double) upper / lower;
        }

        Object onMorphism(int promise, int a, int b) {
            switch (promise) {
                case 41:
                    check(isLetter(a) && isLetter(b), argument());
                    check(images.get(a).size() < 4, state());
                    images.get(a).add(b);
                    return images.get(a).size();
                case 42:
                    check(isLetter(a), argument());
                    int previous = images.get(a).size();
                    images.get(a).clear();
                    return previous;
                case 43:
                    check(change(word, images).size() <= 24, state());
                    word = change(word, images);
                    return word.size();
                case 44:
                    check(isLetter(a) && in(b, 0, 10), argument());
                    List<Integer> now = new ArrayList<>(List.of(a));
                    for (int i = 0; i < b; i++) {
                        now = change(now, images);
                        check(now.size() <= 24, state());
                    }
                    word = now;
                    return word.size();
                case 45:
                    check(in(a, 1, 3) && in(b, 1, 2), argument());
                    check(!pattern.isEmpty(), state());
                    return findMorphism(a, b);
                case 46:
                    check(in(a, 0, 5), argument());
                    check(!pattern.isEmpty(), state());
                    return count(a, images);
                case 47:
                    saved = new Plain();
                    copy(this, saved);
                    return word.size();
                default:
                    check(saved != null, state());
                    copy(saved, this);
                    return word.size();
            }
        }

        static void copy(Plain from, Plain to) {
            to.k = from.k;
            to.word = new ArrayList<>(from.word);
            to.pattern = new ArrayList<>(from.pattern);
            to.images = copyOf(from.images);
        }

        int findMorphism(int imageLength, int testLength) {
            int digits = k * imageLength;
            long all = Math.round(Math.pow(k, digits));
            for (int number = 0; number < all; number++) {
                check(number < 100, unsupported());
                List<List<Integer>> candidate = emptyImages();
                for (int i = 0; i < digits; i++) {
                    int digit = (int) (number / Math.round(Math.pow(k, digits - 1 - i)) % k);
                    candidate.get(i / imageLength).add(digit);
                }
                if (count(testLength, candidate) == 0) {
                    images = candidate;
                    return number + 1;
                }
            }
            throw none();
        }
    }

    private static Object callClass(PatternLaboratory x, int promise, int a, int b, double d) {
        switch (promise) {
            case 2: return x.appendVariable(a);
            case 3: return x.clearPattern();
            case 4: return x.patternLength();
            case 5: return x.patternVariable(a);
            case 6: return x.variables();
            case 7: return x.loadZimin(a);
            case 8: return x.canonicalize();
            case 9: return x.reversePattern();
            case 10: return x.occursInZimin(a);
            case 11: return x.shelve(a);
            case 12: return x.useShelf(a);
            case 13: return x.isIsomorphic(a);
            case 14: return x.contains(a);
            case 15: return x.setLetterCount(a);
            case 16: return x.appendLetter(a);
            case 17: return x.clearWord();
            case 18: return x.wordLength();
            case 19: return x.letter(a);
            case 20: return x.density(a);
            case 21: return x.discountedSum(d);
            case 22: return x.greatestExponent();
            case 23: return x.strongestFactor(a);
            case 24: return x.avoids();
            case 25: return x.findOccurrence();
            case 26: return x.imageLength(a);
            case 27: return x.imageLetter(a, b);
            case 28: return x.occurrenceCount();
            case 29: return x.areConnected(a, b);
            case 30: return x.isFree(a);
            case 31: return x.freeSetCount();
            case 32: return x.freeSet(a);
            case 33: return x.delete(a);
            case 34: return x.isUnavoidable();
            case 35: return x.reductionLength();
            case 36: return x.reductionSet(a);
            case 37: return x.extend(a);
            case 38: return x.longestAvoiding(a);
            case 39: return x.countAvoiding(a);
            case 40: return x.growth(a);
            case 41: return x.appendImage(a, b);
            case 42: return x.clearImage(a);
            case 43: return x.applyMorphism();
            case 44: return x.iterate(a, b);
            case 45: return x.findMorphism(a, b);
            case 46: return x.countSpoiled(a);
            case 47: return x.save();
            default: return x.restore();
        }
    }

    private static Object outcome(PatternLaboratory x, Plain y, int promise, int a, int b, double d) {
        try {
            return x != null ? callClass(x, promise, a, b, d) : y.call(promise, a, b, d);
        } catch (RuntimeException e) {
            return e.getClass().getSimpleName();
        }
    }

    private static int wrong = 0;
    private static final int[] answered = new int[49];
    private static final List<Set<String>> thrown = new ArrayList<>();

    /** How many exceptions each promise from 2 on lists; that of countSpoiled for a long search cannot happen. */
    private static final int[] EXCEPTIONS = {
        2, 0, 0, 1, 0, 1, 0, 0, 2, 1, 2, 2, 2, 1, 2, 0, 0, 1, 2, 1, 1, 2, 1, 2, 2, 3, 1, 1, 1, 0, 1, 2, 0, 1, 2, 4, 3, 3,
        4, 2, 1, 1, 2, 4, 2, 0, 1,
    };

    private static void compare(PatternLaboratory x, Plain y, int promise, int a, int b, double d, String where) {
        Object got = outcome(x, null, promise, a, b, d);
        Object want = outcome(null, y, promise, a, b, d);
        if (want instanceof String) {
            thrown.get(promise).add((String) want);
        } else {
            answered[promise]++;
        }
        if (!want.equals(got)) {
            wrong++;
            if (wrong <= 20) {
                System.out.println(where + ": promise " + promise + " (" + a + ", " + b + ", " + d + ") answered " + got
                        + ", due is " + want + "; k " + y.k + ", pattern " + y.pattern + ", word " + y.word);
            }
        }
    }

    private static void compareState(PatternLaboratory x, Plain y, String where) {
        compare(x, y, 4, 0, 0, 0, where);
        compare(x, y, 18, 0, 0, 0, where);
        for (int i = 0; i < y.pattern.size(); i++) {
            compare(x, y, 5, i, 0, 0, where);
        }
        for (int i = 0; i < y.word.size(); i++) {
            compare(x, y, 19, i, 0, 0, where);
        }
        for (int variable = 0; variable < 5; variable++) {
            compare(x, y, 26, variable, 0, 0, where);
            for (int i = 0; y.remembered != null && i < y.remembered.get(variable).size(); i++) {
                compare(x, y, 27, variable, i, 0, where);
            }
        }
    }

    private static void fill(PatternLaboratory x, Plain y, Random random, String where) {
        compare(x, y, 15, 2 + random.nextInt(3), 0, 0, where);
        compare(x, y, 3, 0, 0, 0, where);
        int variables = 1 + random.nextInt(5);
        for (int i = random.nextInt(10); i >= 0; i--) {
            compare(x, y, 2, random.nextInt(variables), 0, 0, where);
        }
        int letters = 1 + random.nextInt(y.k);
        for (int i = random.nextInt(26); i > 0; i--) {
            compare(x, y, 16, random.nextInt(letters), 0, 0, where);
        }
        for (int i = random.nextInt(10); i > 0; i--) {
            compare(x, y, 41, random.nextInt(y.k), random.nextInt(y.k), 0, where);
        }
    }

    private static int argument(Random random, int promise, Plain y) {
        if (promise == 30 || promise == 33) {
            return random.nextInt(3) > 0 ? Plain.set(y.pattern) & random.nextInt(32) : random.nextInt(70) - 20;
        }
        if (promise == 37) {
            return y.word.size() - 1 + random.nextInt(27 - y.word.size());
        }
        if (promise == 38 || promise == 39 || promise == 40) {
            return random.nextInt(promise == 38 ? 23 : 13) - 1;
        }
        return random.nextInt(9) - 1;
    }

    /** One run stays well under the 512 calls after which an object promises nothing. */
    private static void run(int seed) {
        Random random = new Random(seed);
        PatternLaboratory x = new PatternLaboratory();
        Plain y = new Plain();
        if (random.nextInt(4) > 0) {
            fill(x, y, random, "run " + seed);
        }
        for (int i = 0; i < 40; i++) {
            int promise = 2 + random.nextInt(47);
            if ((promise == 3 || promise == 15 || promise == 17) && random.nextInt(4) > 0) {
                promise = random.nextBoolean() ? 2 : 16;
            }
            String where = "run " + seed + ", call " + i;
            double factor = random.nextInt(10) == 0 ? Double.NaN : random.nextInt(25) * 0.1 - 1.2;
            compare(x, y, promise, argument(random, promise, y), random.nextInt(8) - 1, factor, where);
            if (i % 20 == 19) {
                compareState(x, y, where);
            }
        }
    }

    /** Every question about a pattern, a word and a morphism, each on a laboratory filled at random. */
    private static void examine(int seed) {
        Random random = new Random(seed);
        PatternLaboratory x = new PatternLaboratory();
        Plain y = new Plain();
        String where = "examination " + seed;
        fill(x, y, random, where);
        int[] plain = {6, 22, 24, 25, 28, 31, 34, 35, 43, 47};
        for (int promise : plain) {
            compare(x, y, promise, 0, 0, 0, where);
        }
        for (int a = 0; a < 5; a++) {
            compare(x, y, 10, a, 0, 0, where);
            compare(x, y, 36, a, 0, 0, where);
            compare(x, y, 46, a, 0, 0, where);
            for (int b = 0; b < 5; b++) {
                compare(x, y, 29, a, b, 0, where);
            }
        }
        for (int set = 1; set < 32; set++) {
            compare(x, y, 30, set, 0, 0, where);
        }
        compareState(x, y, where);
        compare(x, y, 40, 1 + random.nextInt(10), 0, 0, where);
        compare(x, y, 38, 1 + random.nextInt(20), 0, 0, where);
        compare(x, y, 37, y.word.size() + random.nextInt(25 - y.word.size()), 0, 0, where);
        compare(x, y, 45, 1 + random.nextInt(3), 1 + random.nextInt(2), 0, where);
        compare(x, y, 44, random.nextInt(y.k), 1 + random.nextInt(3), 0, where);
        compareState(x, y, where);
        compare(x, y, 48, 0, 0, 0, where);
        compareState(x, y, where);
    }

    private static List<Integer> randomRow(Random random, int length, int kinds) {
        List<Integer> row = new ArrayList<>();
        for (int i = 0; i < length; i++) {
            row.add(random.nextInt(kinds));
        }
        return row;
    }

    private static void putPattern(PatternLaboratory x, Plain y, List<Integer> pattern, String where) {
        compare(x, y, 3, 0, 0, 0, where);
        for (int variable : pattern) {
            compare(x, y, 2, variable, 0, 0, where);
        }
    }

    /** Words made from a pattern and images: a long pattern hardly ever occurs in a word that is merely random. */
    private static void plant(int seed) {
        Random random = new Random(seed);
        PatternLaboratory x = new PatternLaboratory();
        Plain y = new Plain();
        String where = "planting " + seed;
        compare(x, y, 15, 2 + random.nextInt(3), 0, 0, where);
        List<Integer> pattern = randomRow(random, 1 + random.nextInt(15), 1 + random.nextInt(5));
        putPattern(x, y, pattern, where);
        List<List<Integer>> images = new ArrayList<>();
        int longest = 1 + random.nextInt(Math.max(1, 30 / pattern.size()));
        for (int variable = 0; variable < 5; variable++) {
            images.add(randomRow(random, 1 + random.nextInt(longest), y.k));
        }
        List<Integer> word = randomRow(random, random.nextInt(4), y.k);
        word.addAll(Plain.change(pattern, images));
        word.addAll(randomRow(random, random.nextInt(4), y.k));
        for (int letter : word) {
            compare(x, y, 16, letter, 0, 0, where);
        }
        if (!Plain.occurs(y.pattern, y.word) && word.size() <= 24) {
            wrong++;
            System.out.println(where + ": the second laboratory does not see what was planted");
        }
        int[] questions = {24, 25, 28, 22};
        for (int promise : questions) {
            compare(x, y, promise, 0, 0, 0, where);
        }
        compareState(x, y, where);
        compare(x, y, 11, 1, 0, 0, where);
        putPattern(x, y, Plain.change(randomRow(random, 4, 3), images), where);
        compare(x, y, 13, 1, 0, 0, where);
        compare(x, y, 14, 1, 0, 0, where);
        putPattern(x, y, pattern.subList(0, Math.min(3, pattern.size())), where);
        compare(x, y, 28, 0, 0, 0, where);
        compare(x, y, 37, y.word.size() + (y.word.size() < 24 ? 1 : 0), 0, 0, where);
    }

    /** What the document says of unavoidable patterns in brackets: they are those that occur in the Zimin word. */
    private static void bracket(int seed) {
        Random random = new Random(seed);
        PatternLaboratory x = new PatternLaboratory();
        Plain y = new Plain();
        String where = "bracket " + seed;
        int variables = 1 + random.nextInt(4);
        List<Integer> pattern = randomRow(random, 1 + random.nextInt(7), variables);
        if (random.nextBoolean()) {
            pattern = Plain.zimin(variables);
            pattern = pattern.subList(random.nextInt((pattern.size() + 1) / 2), pattern.size());
        }
        putPattern(x, y, pattern, where);
        if (x.isUnavoidable() != x.occursInZimin(Integer.bitCount(x.variables()))) {
            wrong++;
            System.out.println(where + ": " + pattern + " is unavoidable or occurs in the Zimin word, but not both");
        }
        int[] questions = {9, 34, 35, 31};
        for (int promise : questions) {
            compare(x, y, promise, 0, 0, 0, where);
        }
        for (int a = 0; a < 6; a++) {
            compare(x, y, 36, a, 0, 0, where);
            compare(x, y, 32, a, 0, 0, where);
        }
        compare(x, y, 33, Plain.set(pattern) & random.nextInt(32), 0, 0, where);
        compareState(x, y, where);
    }

    public static void main(String[] args) {
        int runs = args.length > 0 ? Integer.parseInt(args[0]) : 1500;
        int first = args.length > 1 ? Integer.parseInt(args[1]) : 0;
        for (int promise = 0; promise <= 48; promise++) {
            thrown.add(new TreeSet<>());
        }
        for (int seed = first; seed < first + runs; seed++) {
            run(seed);
            if (seed % 5 == 0) {
                examine(seed);
            }
            plant(seed);
            bracket(seed);
        }
        for (int promise = 2; promise <= 48; promise++) {
            if (answered[promise] == 0) {
                wrong++;
                System.out.println("promise " + promise + " was never answered");
            }
            if (thrown.get(promise).size() != EXCEPTIONS[promise - 2]) {
                wrong++;
                System.out.println("promise " + promise + " has thrown only " + thrown.get(promise));
            }
        }
        System.out.println(wrong == 0 ? "both laboratories agree" : wrong + " answers differ");
        if (wrong != 0) {
            System.exit(1);
        }
    }
}
