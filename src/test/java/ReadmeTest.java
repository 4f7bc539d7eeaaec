import java.io.IOException;
import java.lang.reflect.Method;
import java.lang.reflect.Modifier;
import java.nio.file.Files;
import java.nio.file.Path;
import java.util.regex.Matcher;
import java.util.regex.Pattern;

/** The examples of README.md: each call that has an answer behind it gives this answer; all calls are named there. */
public final class ReadmeTest {
    private static final Pattern MADE = Pattern.compile("SewnYear x = new SewnYear\\(\\);");
    private static final Pattern TOLD = Pattern.compile("tell\\(x, (\\d), \"([^\"]*)\"\\);\\s*// (-?\\d+).*");
    private static final Pattern CALLED = Pattern.compile("x\\.(\\w+)\\(([^)]*)\\);\\s*// (-?\\d+|true|false).*");

    public static void main(String[] args) throws IOException, ReflectiveOperationException {
        SewnYear x = null;
        int examples = 0;
        String readme = Files.readString(Path.of("README.md"));
        for (String line : readme.split("\n")) {
            Matcher told = TOLD.matcher(line);
            Matcher called = CALLED.matcher(line);
            if (MADE.matcher(line).matches()) {
                x = new SewnYear();
            } else if (told.matches()) {
                Due.is(line, Tape.tell(x, Integer.parseInt(told.group(1)), told.group(2)), Long.parseLong(told.group(3)));
                examples++;
            } else if (called.matches()) {
                Due.is(line, call(x, called.group(1), called.group(2).split(", ")), called.group(3));
                examples++;
            }
        }
        Due.is("many examples", examples > 20, true);
        for (Method m : SewnYear.class.getDeclaredMethods()) {
            if (Modifier.isPublic(m.getModifiers())) {
                Due.is("named: " + m.getName(), readme.contains("`" + m.getName() + "`"), true);
            }
        }
        Due.end();
    }

    private static String call(SewnYear x, String name, String[] words) throws ReflectiveOperationException {
        for (Method m : SewnYear.class.getDeclaredMethods()) {
            if (m.getName().equals(name) && Modifier.isPublic(m.getModifiers())) {
                Object[] numbers = new Object[words.length];
                for (int i = 0; i < words.length; i++) {
                    numbers[i] = argument(words[i], m.getParameterTypes()[i]);
                }
                return String.valueOf(m.invoke(x, numbers));
            }
        }
        return "no such call";
    }

    private static Object argument(String word, Class<?> type) {
        if (type == boolean.class) {
            return Boolean.valueOf(word);
        }
        return word.equals("SewnYear.NONE") ? Integer.valueOf(SewnYear.NONE) : Integer.decode(word);
    }
}
