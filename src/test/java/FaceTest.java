import java.io.IOException;
import java.lang.reflect.Constructor;
import java.lang.reflect.Field;
import java.lang.reflect.Method;
import java.lang.reflect.Modifier;
import java.nio.file.Files;
import java.nio.file.Path;
import java.util.Set;
import java.util.TreeSet;

/** The face of the class as the document has it, and the rules of LANGUAGE.md that a look from outside can check. */
public final class FaceTest {
    private static final String[] FACE = {
        "int appendVariable(int) IllegalArgumentException IllegalStateException",
        "int clearPattern()",
        "int patternLength()",
        "int patternVariable(int) IndexOutOfBoundsException",
        "int variables()",
        "int loadZimin(int) IllegalArgumentException",
        "boolean canonicalize()",
        "boolean reversePattern()",
        "boolean occursInZimin(int) IllegalArgumentException IllegalStateException",
        "int shelve(int) IndexOutOfBoundsException",
        "int useShelf(int) IndexOutOfBoundsException IllegalStateException",
        "boolean isIsomorphic(int) IndexOutOfBoundsException IllegalStateException",
        "boolean contains(int) IndexOutOfBoundsException IllegalStateException",
        "int setLetterCount(int) IllegalArgumentException",
        "int appendLetter(int) IllegalArgumentException IllegalStateException",
        "int clearWord()",
        "int wordLength()",
        "int letter(int) IndexOutOfBoundsException",
        "float density(int) IllegalArgumentException ArithmeticException",
        "double discountedSum(double) IllegalArgumentException",
        "double greatestExponent() IllegalStateException",
        "int strongestFactor(int) IllegalArgumentException IllegalStateException",
        "boolean avoids() IllegalStateException",
        "int findOccurrence() IllegalStateException NoSuchElementException",
        "int imageLength(int) IllegalArgumentException IllegalStateException",
        "int imageLetter(int,int) IllegalArgumentException IllegalStateException IndexOutOfBoundsException",
        "int occurrenceCount() IllegalStateException",
        "boolean areConnected(int,int) IllegalArgumentException",
        "boolean isFree(int) IllegalArgumentException",
        "int freeSetCount()",
        "int freeSet(int) IndexOutOfBoundsException",
        "int delete(int) IllegalArgumentException IllegalStateException",
        "boolean isUnavoidable()",
        "int reductionLength() NoSuchElementException",
        "int reductionSet(int) NoSuchElementException IndexOutOfBoundsException",
        "int extend(int) IllegalArgumentException IllegalStateException NoSuchElementException"
                + " UnsupportedOperationException",
        "int longestAvoiding(int) IllegalArgumentException IllegalStateException UnsupportedOperationException",
        "int countAvoiding(int) IllegalArgumentException IllegalStateException UnsupportedOperationException",
        "double growth(int) IllegalArgumentException IllegalStateException UnsupportedOperationException"
                + " ArithmeticException",
        "int appendImage(int,int) IllegalArgumentException IllegalStateException",
        "int clearImage(int) IllegalArgumentException",
        "int applyMorphism() IllegalStateException",
        "int iterate(int,int) IllegalArgumentException IllegalStateException",
        "int findMorphism(int,int) IllegalArgumentException IllegalStateException UnsupportedOperationException"
                + " NoSuchElementException",
        "int countSpoiled(int) IllegalArgumentException IllegalStateException UnsupportedOperationException",
        "int save()",
        "int restore() IllegalStateException",
    };

    /** Words that LANGUAGE.md leaves no use for. */
    private static final String[] UNWANTED = {
        "->", "::", "try", "catch", "finally", "assert", "synchronized", "throws Exception", "static {", "Exact(",
        "System.out", "System.err", "System.nano", "System.current", "Random", "Thread", "HashMap", "Object",
    };

    private static int wrong = 0;

    private static void check(boolean good, String complaint) {
        if (!good) {
            wrong++;
            System.out.println(complaint);
        }
    }

    private static String describe(Method method) {
        StringBuilder text = new StringBuilder(method.getReturnType().getSimpleName());
        text.append(' ').append(method.getName()).append('(');
        for (int i = 0; i < method.getParameterCount(); i++) {
            text.append(i == 0 ? "" : ",").append(method.getParameterTypes()[i].getSimpleName());
        }
        text.append(')');
        for (Class<?> exception : method.getExceptionTypes()) {
            text.append(' ').append(exception.getSimpleName());
        }
        return text.toString();
    }

    private static void checkMethods(Class<?> face) {
        Set<String> wanted = new TreeSet<>(Set.of(FACE));
        Set<String> open = new TreeSet<>();
        Set<String> openNames = new TreeSet<>();
        for (Method method : face.getDeclaredMethods()) {
            if (!Modifier.isPrivate(method.getModifiers())) {
                open.add(describe(method));
                openNames.add(method.getName());
                check(method.getModifiers() == Modifier.PUBLIC, method + " is not simply public");
            }
        }
        check(open.equals(wanted), "the face is " + open + ", due is " + wanted);
        checkPrivateNames(face, openNames);
        for (Class<?> inside : face.getDeclaredClasses()) {
            checkPrivateNames(inside, openNames);
        }
    }

    private static void checkPrivateNames(Class<?> place, Set<String> openNames) {
        for (Method method : place.getDeclaredMethods()) {
            check(!Modifier.isPrivate(method.getModifiers()) || !openNames.contains(method.getName()),
                    method + " bears the name of a public method");
        }
    }

    private static void checkMembers(Class<?> face) {
        check(face.getModifiers() == (Modifier.PUBLIC | Modifier.FINAL), "the class is not public and final");
        check(face.getPackageName().isEmpty(), "the class has a package");
        Constructor<?>[] constructors = face.getDeclaredConstructors();
        check(constructors.length == 1 && constructors[0].getParameterCount() == 0
                && constructors[0].getModifiers() == Modifier.PUBLIC, "the constructor is not the document's");
        for (Field field : face.getDeclaredFields()) {
            check(Modifier.isPrivate(field.getModifiers()), field + " is not private");
        }
        check(face.getDeclaredClasses().length < 12, "there are too many classes");
        for (Class<?> inside : face.getDeclaredClasses()) {
            check(Modifier.isStatic(inside.getModifiers()), inside + " is not static");
            check(inside.getDeclaredFields().length <= 20, inside + " has too many fields");
        }
    }

    private static void checkSource(String path) throws IOException {
        String source = Files.readString(Path.of(path));
        String code = source.replaceAll("(?s)/\\*.*?\\*/", "").replaceAll("//[^\n]*", "").replaceAll("\"[^\"\n]*\"", "");
        for (String word : UNWANTED) {
            boolean isName = Character.isLetter(word.charAt(0)) && Character.isLetter(word.charAt(word.length() - 1));
            String pattern = "(?s).*" + (isName ? "\\b" + word + "\\b" : java.util.regex.Pattern.quote(word)) + ".*";
            check(!code.matches(pattern), "the source has " + word);
        }
        for (String line : code.split("\n")) {
            check(!line.startsWith("import ") || line.equals("import java.util.NoSuchElementException;"),
                    "the source has " + line);
        }
        check(source.chars().allMatch(c -> c < 128), "the source has a sign that is not ASCII");
    }

    public static void main(String[] args) throws IOException {
        checkMethods(PatternLaboratory.class);
        checkMembers(PatternLaboratory.class);
        String source = System.getProperty("source");
        check(source != null, "the property source does not tell where the class is");
        if (source != null) {
            checkSource(source);
        }
        System.out.println(wrong == 0 ? "the face is the document's" : wrong + " complaints");
        if (wrong != 0) {
            System.exit(1);
        }
    }
}
