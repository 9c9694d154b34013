import java.io.IOException;
import java.lang.reflect.Constructor;
import java.lang.reflect.Field;
import java.lang.reflect.Method;
import java.lang.reflect.Modifier;
import java.nio.file.Files;
import java.nio.file.Path;
import java.util.Arrays;
import java.util.Set;
import java.util.TreeSet;

/** The section 'The public face', and the rules of LANGUAGE.md that can be seen from the class and its text. */
public final class FaceTest {
    private static final Checks CHECKS = new Checks();

    private static final String[] FACE = {
        "int append(int,int,int)", "int flush()", "int compact(int)", "int expire(int)", "int seek(int,int,int)",
        "boolean next()", "int curTime()", "int curVal()", "int aggCount(int,int,int)",
        "int aggMin(int,int,int) throws java.lang.IllegalStateException,java.lang.IndexOutOfBoundsException",
        "int aggMax(int,int,int) throws java.lang.IllegalStateException,java.lang.IndexOutOfBoundsException",
        "long aggSum(int,int,int) throws java.lang.IllegalStateException,java.lang.IndexOutOfBoundsException",
        "boolean crashAfter(int)", "int recover()", "int cell(int)",
        "int sizes(int,int) throws java.lang.IllegalStateException,java.lang.IndexOutOfBoundsException,"
            + "java.util.NoSuchElementException",
        "int chunk(int,int,int) throws java.lang.IllegalStateException,java.lang.IndexOutOfBoundsException,"
            + "java.util.NoSuchElementException",
        "int group(int,int,int) throws java.lang.IllegalStateException,java.lang.IndexOutOfBoundsException,"
            + "java.util.NoSuchElementException",
        "int look(int)",
    };

    private static final String[] CONSTANTS = {
        "NONE=-1", "NOT_RISING=-1", "BAD_SERIES=-2", "NO_SPACE=-3", "DOWN=-9",
    };

    public static void main(String[] args) throws Exception {
        hasTheFaceAndNoMore();
        keepsItsClassesToItself();
        hasNoForbiddenWords();
        CHECKS.done();
    }

    private static void hasTheFaceAndNoMore() throws IllegalAccessException {
        Class<?> c = PointLedger.class;
        CHECKS.same("the class is public and final", c.getModifiers(), Modifier.PUBLIC | Modifier.FINAL);
        Set<String> face = new TreeSet<>();
        for (Method m : c.getDeclaredMethods()) {
            if (!Modifier.isPrivate(m.getModifiers()) && !m.isSynthetic()) {
                CHECKS.same(m + " has no other modifier", m.getModifiers(), Modifier.PUBLIC);
                face.add(m.toGenericString().replace("public ", "").replace("PointLedger.", ""));
            }
        }
        same("methods", face, FACE);
        Set<String> constants = new TreeSet<>();
        for (Field f : c.getDeclaredFields()) {
            if (!Modifier.isPrivate(f.getModifiers()) && !f.isSynthetic()) {
                CHECKS.same(f + "'s modifiers", f.getModifiers(), Modifier.PUBLIC | Modifier.STATIC | Modifier.FINAL);
                CHECKS.yes(f + " is an int", f.getType() == int.class);
                constants.add(f.getName() + "=" + f.getInt(null));
            }
        }
        same("constants", constants, CONSTANTS);
        Constructor<?>[] constructors = c.getDeclaredConstructors();
        CHECKS.same("constructors", constructors.length, 1);
        CHECKS.yes("its form", constructors[0].toString().equals("public PointLedger(int,int,int)"));
    }

    private static void same(String what, Set<String> got, String[] due) {
        Set<String> all = new TreeSet<>(Arrays.asList(due));
        CHECKS.yes("the " + what + " are " + got + ", due are " + all + ", which", got.equals(all));
    }

    private static void keepsItsClassesToItself() {
        Set<String> faceNames = new TreeSet<>();
        for (String method : FACE) {
            faceNames.add(method.substring(method.indexOf(' ') + 1, method.indexOf('(')));
        }
        for (Class<?> c : PointLedger.class.getDeclaredClasses()) {
            boolean isOpen = Modifier.isPublic(c.getModifiers()) || Modifier.isProtected(c.getModifiers());
            CHECKS.no(c + " is public or protected", isOpen);
            checkMembers(c, faceNames);
        }
        checkMembers(PointLedger.class, faceNames);
    }

    private static void checkMembers(Class<?> c, Set<String> faceNames) {
        for (Field f : c.getDeclaredFields()) {
            boolean changes = Modifier.isStatic(f.getModifiers()) && !Modifier.isFinal(f.getModifiers());
            CHECKS.no(f + " is static and changes (rule 5)", changes);
        }
        for (Method m : c.getDeclaredMethods()) {
            CHECKS.yes(m + " takes seven parameters at most (rule 11)", m.getParameterCount() <= 7);
            if (Modifier.isPrivate(m.getModifiers())) {
                CHECKS.no(m + " bears the name of a public one (rule 1)", faceNames.contains(m.getName()));
            }
        }
    }

    private static void hasNoForbiddenWords() throws IOException {
        String text = Files.readString(Path.of("src/main/java/PointLedger.java"));
        String code = text.replaceAll("(?s)/\\*.*?\\*/", "").replaceAll("//[^\n]*", "").replaceAll("\"[^\"]*\"", "\"\"");
        String[] words = {
            "package", "finally", "synchronized", "assert", "native", "volatile", "Thread", "Random", "getMessage",
            "NullPointerException", "ArrayIndexOutOfBoundsException", "ClassCastException", "NegativeArraySizeException",
            "ArrayStoreException", "Throwable", "Error",
        };
        for (String word : words) {
            CHECKS.no("the text has the word " + word, code.matches("(?s).*\\b" + word + "\\b.*"));
        }
        CHECKS.no("the text has a method reference (rule 2)", code.contains("::"));
        CHECKS.no("the text catches every Exception", code.matches("(?s).*catch\\s*\\(\\s*Exception\\b.*"));
        CHECKS.no("the text has a method whose name ends in Exact (rule 4)", code.matches("(?s).*\\w+Exact\\(.*"));
    }
}
