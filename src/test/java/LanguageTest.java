import java.io.IOException;
import java.nio.file.Files;
import java.nio.file.Path;
import java.util.ArrayDeque;
import java.util.Deque;
import java.util.Map;
import java.util.Set;
import java.util.TreeMap;
import java.util.TreeSet;
import java.util.regex.Matcher;
import java.util.regex.Pattern;
import java.util.stream.Collectors;

/**
 * The rules of LANGUAGE.md that the source's text shows; those on members are in FaceTest, rule 7 in NeverThrowsTest.
 * Run from the project's folder.
 */
public final class LanguageTest {
    private static final Set<String> WORDS = Set.of("public", "private", "final", "static", "class", "new", "this",
        "int", "long", "short", "byte", "char", "boolean", "void", "true", "false", "if", "else", "for", "switch",
        "case", "default", "break", "continue", "return", "MeldLog");
    private static final Set<String> NOT_CALLS = Set.of("if", "for", "switch", "return", "else");
    private static final String TYPE = "(?:int|long|short|byte|char|boolean|void)(?:\\[\\])?";
    private static final Pattern DECLARED = Pattern.compile("\\b" + TYPE + " (\\w+)");
    private static final Pattern WORD = Pattern.compile("\\b([A-Za-z_$]\\w*)");
    private static final Pattern METHOD =
        Pattern.compile("(?m)^    (?:public|private)(?: static)? (?:" + TYPE + " )?(\\w+)\\([^)]*\\) \\{$");
    private static final Pattern CALL = Pattern.compile("\\b(\\w+)\\s*\\(");
    private static final Pattern NEW = Pattern.compile("\\bnew\\b");
    private static final Pattern FIELD_ARRAY =
        Pattern.compile("(?m)^    private final \\w+\\[\\] \\w+ = new \\w+\\[[A-Z_]+\\];$");
    private static final Pattern LOOP = Pattern.compile("\\bfor\\b");
    private static final Pattern COUNTED_LOOP =
        Pattern.compile("\\bfor \\(int (\\w+) = [^;=]+; \\1 <=? \\w+; \\1\\+\\+\\) \\{");

    public static void main(String[] args) throws IOException {
        String source = withoutComments(Files.readString(Path.of("src/main/java/MeldLog.java")));
        noOtherWords(source);
        noOtherSigns(source);
        Checks.due("rule 4: arrays made elsewhere than in a field's initialiser, with a constant length",
            count(NEW, source) - count(FIELD_ARRAY, source), 0);
        Checks.due("rule 8: loops without a counter against a bound",
            count(LOOP, source) - count(COUNTED_LOOP, source), 0);
        noCallInArguments(source);
        Map<String, String> bodies = methodBodies(source);
        Checks.holds("methods are found", bodies.size() > 14);
        methodsAreShort(bodies);
        callsEnd(bodies);
        Checks.finish();
    }

    private static String withoutComments(String source) {
        return source.replaceAll("(?s)/\\*.*?\\*/", "").replaceAll("//.*", "");
    }

    private static int count(Pattern pattern, String text) {
        return (int) pattern.matcher(text).results().count();
    }

    private static Set<String> found(Pattern pattern, String text) {
        return pattern.matcher(text).results().map(match -> match.group(1))
            .collect(Collectors.toCollection(TreeSet::new));
    }

    /** Rules 1 to 6 and 11: with these words and its own names alone, the class reaches nothing outside it. */
    private static void noOtherWords(String source) {
        Set<String> others = found(WORD, source);
        others.removeAll(WORDS);
        others.removeAll(found(DECLARED, source));
        Checks.holds("rules 1 to 6: no other words, but there are " + others, others.isEmpty());
    }

    private static void noOtherSigns(String source) {
        for (String sign : new String[] {"->", "::", "\"", "@", "[][]", "] []", "static {", "..."}) {
            Checks.holds("rules 2 to 6: no '" + sign + "'", !source.contains(sign));
        }
    }

    /** Rule 10; walks over the parentheses and remembers for each open one whether it belongs to a call. */
    private static void noCallInArguments(String source) {
        Deque<Boolean> parentheses = new ArrayDeque<>();
        for (int i = 0; i < source.length(); i++) {
            if (source.charAt(i) == ')') {
                parentheses.pop();
            } else if (source.charAt(i) == '(') {
                Matcher before = Pattern.compile("(\\w+)\\s*$").matcher(source.substring(Math.max(0, i - 60), i));
                boolean call = before.find() && !NOT_CALLS.contains(before.group(1));
                Checks.holds("rule 10: no call inside arguments, at " + i, !call || !parentheses.contains(true));
                parentheses.push(call);
            }
        }
    }

    private static Map<String, String> methodBodies(String source) {
        Map<String, String> bodies = new TreeMap<>();
        Matcher method = METHOD.matcher(source);
        while (method.find()) {
            int end = source.indexOf("\n    }", method.end() - 1);
            bodies.put(method.group(1), source.substring(method.end(), end));
        }
        return bodies;
    }

    private static void methodsAreShort(Map<String, String> bodies) {
        for (Map.Entry<String, String> method : bodies.entrySet()) {
            Checks.holds("rule 10: " + method.getKey() + " is short", method.getValue().lines().count() <= 60);
        }
    }

    private static void callsEnd(Map<String, String> bodies) {
        Set<String> level = new TreeSet<>(bodies.keySet());
        // A recursion would never run out of callees.
        for (int depth = 1; depth <= 6; depth++) {
            Set<String> next = new TreeSet<>();
            for (String name : level) {
                next.addAll(callees(bodies, name));
            }
            level = next;
        }
        Checks.holds("rules 8 and 10: calls go at most six deep, without recursion", level.isEmpty());
    }

    private static Set<String> callees(Map<String, String> bodies, String name) {
        Set<String> callees = found(CALL, bodies.get(name));
        callees.removeAll(NOT_CALLS);
        Checks.holds("rule 3: " + name + " calls the class's own methods, not " + callees,
            bodies.keySet().containsAll(callees));
        callees.retainAll(bodies.keySet());
        return callees;
    }
}
