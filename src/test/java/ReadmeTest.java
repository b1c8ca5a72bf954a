import java.io.IOException;
import java.lang.reflect.Method;
import java.lang.reflect.Modifier;
import java.nio.file.Files;
import java.nio.file.Path;
import java.util.regex.Matcher;
import java.util.regex.Pattern;

/** README.md: its example's calls answer what stands behind them, and it names every call of the face. */
public final class ReadmeTest {
    private static final Pattern FED = Pattern.compile("feed\\(capital, \"([^\"]*)\"\\);");
    private static final Pattern CALLED = Pattern.compile("capital\\.(\\w+)\\(([0-9]*)\\);\\s+// (\\w+).*");
    private static final int CALLS = 17;

    public static void main(String[] args) throws IOException, ReflectiveOperationException {
        String text = Files.readString(Path.of("README.md"));
        example(text.split("\n"));
        names(text);
        Check.end();
    }

    private static void example(String[] lines) throws ReflectiveOperationException {
        LeapCapital capital = new LeapCapital();
        int made = 0;
        for (String line : lines) {
            Matcher fed = FED.matcher(line);
            Matcher called = CALLED.matcher(line);
            if (fed.matches()) {
                Check.feed(capital, fed.group(1));
            } else if (called.matches()) {
                Check.due(line, answer(capital, called.group(1), called.group(2)).equals(called.group(3)), true);
                made++;
            }
        }
        Check.due("calls in the example", made, CALLS);
    }

    private static String answer(LeapCapital capital, String name, String argument) throws ReflectiveOperationException {
        if (argument.isEmpty()) {
            return LeapCapital.class.getMethod(name).invoke(capital).toString();
        }
        return LeapCapital.class.getMethod(name, int.class).invoke(capital, Integer.valueOf(argument)).toString();
    }

    private static void names(String text) {
        for (Method method : LeapCapital.class.getDeclaredMethods()) {
            if (Modifier.isPublic(method.getModifiers())) {
                Check.due("README.md names " + method.getName(), text.contains("`" + method.getName() + "`"), true);
            }
        }
    }
}
