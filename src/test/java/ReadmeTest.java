import java.io.IOException;
import java.lang.reflect.InvocationTargetException;
import java.lang.reflect.Method;
import java.lang.reflect.Modifier;
import java.nio.file.Files;
import java.nio.file.Path;
import java.util.Arrays;
import java.util.regex.Matcher;
import java.util.regex.Pattern;

/** README.md says how to use the class: its example is run, and it names every call and constant of the face. */
public final class ReadmeTest {
    private static final Pattern MADE = Pattern.compile("= new PointLedger\\((\\d+), (\\d+), (\\d+)\\);");
    private static final Pattern CALL = Pattern.compile("ledger\\.(\\w+)\\(([^)]*)\\); +// ([\\w-]+).*");
    private static final Checks CHECKS = new Checks();

    public static void main(String[] args) throws IOException, IllegalAccessException {
        String readme = Files.readString(Path.of("README.md"));
        itsExampleAnswersSo(readme);
        itNamesTheWholeFace(readme);
        CHECKS.done();
    }

    private static void itsExampleAnswersSo(String readme) throws IllegalAccessException {
        Matcher made = MADE.matcher(readme);
        CHECKS.yes("an object is made in the example", made.find());
        PointLedger ledger = new PointLedger(numbered(made, 1), numbered(made, 2), numbered(made, 3));
        Matcher call = CALL.matcher(readme);
        int calls = 0;
        while (call.find()) {
            calls++;
            String got = answerOf(ledger, call.group(1), call.group(2));
            CHECKS.yes(call.group() + " answered " + got + ", which is as told", got.equals(call.group(3)));
        }
        CHECKS.yes("the example has calls", calls > 10);
    }

    private static int numbered(Matcher matcher, int group) {
        return Integer.parseInt(matcher.group(group));
    }

    private static String answerOf(PointLedger ledger, String name, String told) throws IllegalAccessException {
        Object[] args = told.isEmpty() ? new Object[0] : Arrays.stream(told.split(", ")).map(Integer::valueOf).toArray();
        for (Method method : PointLedger.class.getMethods()) {
            if (method.getName().equals(name)) {
                try {
                    return String.valueOf(method.invoke(ledger, args));
                } catch (InvocationTargetException e) {
                    return e.getCause().getClass().getSimpleName();
                }
            }
        }
        return "there is no such call";
    }

    private static void itNamesTheWholeFace(String readme) {
        for (Method method : PointLedger.class.getDeclaredMethods()) {
            boolean isFace = Modifier.isPublic(method.getModifiers());
            CHECKS.yes("README.md names " + method, !isFace || readme.contains("`" + method.getName()));
        }
        for (String constant : new String[] {"NONE", "NOT_RISING", "BAD_SERIES", "NO_SPACE", "DOWN"}) {
            CHECKS.yes("README.md names " + constant, readme.contains("`" + constant + "`"));
        }
    }
}
