import java.io.IOException;
import java.lang.reflect.Method;
import java.lang.reflect.Modifier;
import java.nio.file.Files;
import java.nio.file.Path;
import java.util.Arrays;
import java.util.Set;
import java.util.TreeSet;
import java.util.regex.MatchResult;
import java.util.regex.Pattern;

/** README.md's example: each call answers what stands beside it, and every method is shown. Run from its folder. */
public final class ReadmeTest {
    private static final Pattern LINE = Pattern.compile("(?m)^log\\..*$");
    private static final Pattern CALL = Pattern.compile("^log\\.(\\w+)\\((.*)\\); +// (-?\\w+)(?::.*)?$");

    public static void main(String[] args) throws IOException, ReflectiveOperationException {
        MeldLog log = new MeldLog();
        Set<String> shown = new TreeSet<>();
        for (MatchResult line : LINE.matcher(Files.readString(Path.of("README.md"))).results().toList()) {
            shown.add(follow(log, line.group()));
        }
        Checks.holds("README.md shows each method, and not only " + shown, shown.equals(methods()));
        Checks.finish();
    }

    /** Makes the call that a line shows, and answers its method's name. */
    private static String follow(MeldLog log, String line) throws ReflectiveOperationException {
        MatchResult call = CALL.matcher(line).results().findFirst()
            .orElseThrow(() -> new IllegalStateException("README.md: no call with its answer: " + line));
        String got = answer(log, call.group(1), call.group(2)).toString();
        Checks.holds("README.md: " + line + " (it answers " + got + ")", got.equals(due(call.group(3))));
        return call.group(1);
    }

    private static Object answer(MeldLog log, String name, String list) throws ReflectiveOperationException {
        Object[] numbers = Pattern.compile("-?\\d+").matcher(list).results()
            .map(number -> Integer.valueOf(number.group())).toArray();
        Class<?>[] types = new Class<?>[numbers.length];
        Arrays.fill(types, int.class);
        return MeldLog.class.getMethod(name, types).invoke(log, numbers);
    }

    /** A constant's value where the text names one, else the text. */
    private static String due(String text) throws ReflectiveOperationException {
        return text.matches("[A-Z]+") ? MeldLog.class.getField(text).get(null).toString() : text;
    }

    private static Set<String> methods() {
        Set<String> names = new TreeSet<>();
        for (Method method : MeldLog.class.getDeclaredMethods()) {
            if (Modifier.isPublic(method.getModifiers())) {
                names.add(method.getName());
            }
        }
        return names;
    }
}
