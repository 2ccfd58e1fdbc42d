import java.io.IOException;
import java.lang.reflect.Field;
import java.lang.reflect.Method;
import java.lang.reflect.Modifier;
import java.nio.file.Files;
import java.nio.file.Path;
import java.util.Arrays;
import java.util.Set;
import java.util.TreeSet;
import java.util.regex.Pattern;
import java.util.stream.Collectors;

/** The face of the document and nothing beside it, and words that LANGUAGE.md rules out (rules 1, 2, 5, 6, 13). */
public final class FaceTest {
    private static final String[] FACE = {
        "measure 2", "make 2", "notch 4", "wear 2", "split 3", "memo 2", "as 2", "lose 2", "burn 1", "about 2",
        "depth 2", "cut 2", "composed 1", "slack 1", "apart 2", "pairs 0", "other 1", "raised 1", "day 1", "pass 2",
        "holder 2", "passing 2", "owes 2", "net 1", "ring 1", "setOff 0", "toPay 1", "pay 2", "purse 2", "lay 1",
        "column 2", "reduce 0", "sum 0", "fewest 0", "tell 1", "check 0", "count 1", "found 1"};

    private static final String[] RULED_OUT = {"throw", "throws", "try", "catch", "synchronized", "assert", "->", "::", "Object",
        "hashCode", "toString", "equals", "System\\.(?!arraycopy)", "Thread", "Random", "import (?!java\\.util\\.Arrays;)",
        "\\w+Exact", "static \\{", "package"};

    public static void main(String[] args) throws IOException {
        methodsAreThoseOfTheDocument();
        nothingElseCanBeSeen();
        classesInsideAreStatic();
        sourceKeepsToTheLanguage();
        Due.end();
    }

    /** Comments are cut out first, as they may say any word. */
    private static void sourceKeepsToTheLanguage() throws IOException {
        String source = Files.readString(Path.of("src/main/java/TallyCourt.java"));
        Due.holds("signs up to 127", source.chars().allMatch(sign -> sign < 128));
        String code = source.replaceAll("(?s)/\\*.*?\\*/", "").replaceAll("//[^\n]*", "");
        for (String word : RULED_OUT) {
            String whole = Character.isLetter(word.charAt(0)) ? "\\b" + word : word;
            String ended = Character.isLetter(word.charAt(word.length() - 1)) ? whole + "\\b" : whole;
            Due.holds("no " + word, !Pattern.compile(ended).matcher(code).find());
        }
    }

    private static void methodsAreThoseOfTheDocument() {
        Set<String> want = new TreeSet<>(Arrays.asList(FACE));
        Set<String> got = new TreeSet<>();
        for (Method method : TallyCourt.class.getDeclaredMethods()) {
            if (Modifier.isPublic(method.getModifiers())) {
                got.add(method.getName() + " " + method.getParameterCount());
                Due.holds(method + " takes and answers ints", method.getReturnType() == int.class
                    && Arrays.stream(method.getParameterTypes()).allMatch(type -> type == int.class));
            }
        }
        Due.holds("the face is " + want + ", it is " + got, got.equals(want));
        Due.same("public constructors", TallyCourt.class.getConstructors().length, 1);
        Due.holds("public and final", Modifier.isPublic(TallyCourt.class.getModifiers())
            && Modifier.isFinal(TallyCourt.class.getModifiers()));
    }

    private static void nothingElseCanBeSeen() {
        Set<String> names = Arrays.stream(FACE).map(row -> row.split(" ")[0]).collect(Collectors.toSet());
        for (Method method : TallyCourt.class.getDeclaredMethods()) {
            if (!Modifier.isPublic(method.getModifiers())) {
                Due.holds(method + " is private", Modifier.isPrivate(method.getModifiers()));
                Due.holds(method + " has a name of its own", !names.contains(method.getName()));
            }
        }
        for (Field field : TallyCourt.class.getDeclaredFields()) {
            Due.holds(field + " is private", Modifier.isPrivate(field.getModifiers()));
        }
    }

    private static void classesInsideAreStatic() {
        for (Class<?> inside : TallyCourt.class.getDeclaredClasses()) {
            Due.holds(inside + " is static", Modifier.isStatic(inside.getModifiers()));
            for (Field field : inside.getDeclaredFields()) {
                Due.holds(field + " is no static state",
                    !Modifier.isStatic(field.getModifiers()) || Modifier.isFinal(field.getModifiers()));
            }
        }
        for (Field field : TallyCourt.class.getDeclaredFields()) {
            Due.holds(field + " is no static state",
                !Modifier.isStatic(field.getModifiers()) || Modifier.isFinal(field.getModifiers()));
        }
    }
}
