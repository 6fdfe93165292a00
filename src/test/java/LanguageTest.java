import java.io.IOException;
import java.nio.file.Files;
import java.nio.file.Path;
import java.util.ArrayDeque;
import java.util.Deque;
import java.util.Map;
import java.util.Set;
import java.util.TreeMap;
import java.util.TreeSet;
import java.util.regex.Matcher;
import java.util.regex.Pattern;

/** The rules of LANGUAGE.md that the source's text shows; run from the project's folder. */
public final class LanguageTest {
    private static final String[] FORBIDDEN = {"import", "package", "float", "double", "null", "throw", "throws",
        "try", "catch", "finally", "synchronized", "assert", "instanceof", "enum", "record", "interface",
        "protected", "native", "String", "Object", "Math", "Integer", "Long", "System", "Arrays", "Override", "var"};
    private static final Set<String> NOT_CALLS = Set.of("if", "for", "while", "switch", "return", "do", "else");
    private static final Pattern METHOD =
        Pattern.compile("(?m)^    (?:public|private)(?: static)? (?:\\w+ )?(\\w+)\\([^)]*\\) \\{$");
    private static final Pattern CALL = Pattern.compile("\\b(\\w+)\\s*\\(");
    private static final Pattern NEW = Pattern.compile("\\bnew\\b");
    private static final Pattern FIELD_ARRAY =
        Pattern.compile("(?m)^    private final \\w+\\[\\] \\w+ = new \\w+\\[\\w+\\];$");

    public static void main(String[] args) throws IOException {
        String source = withoutComments(Files.readString(Path.of("src/main/java/MeldLog.java")));
        for (String word : FORBIDDEN) {
            Checks.holds("no '" + word + "'", !Pattern.compile("\\b" + word + "\\b").matcher(source).find());
        }
        for (String sign : new String[] {"->", "::", "\"", "@", "[][]", "static {"}) {
            Checks.holds("no '" + sign + "'", !source.contains(sign));
        }
        Checks.due("arrays made outside of field initialisers", count(NEW, source) - count(FIELD_ARRAY, source), 0);
        noCallInArguments(source);
        Map<String, String> bodies = methodBodies(source);
        Checks.holds("methods are found", bodies.size() > 14);
        methodsAreShort(bodies);
        callsEnd(bodies);
        Checks.finish();
    }

    private static String withoutComments(String source) {
        return source.replaceAll("(?s)/\\*.*?\\*/", "").replaceAll("//.*", "");
    }

    private static int count(Pattern pattern, String text) {
        return (int) pattern.matcher(text).results().count();
    }

    /** Walks over the parentheses and remembers for each open one whether it belongs to a call. */
    private static void noCallInArguments(String source) {
        Deque<Boolean> parentheses = new ArrayDeque<>();
        for (int i = 0; i < source.length(); i++) {
            if (source.charAt(i) == ')') {
                parentheses.pop();
            } else if (source.charAt(i) == '(') {
                Matcher before = Pattern.compile("(\\w+)\\s*$").matcher(source.substring(Math.max(0, i - 60), i));
                boolean call = before.find() && !NOT_CALLS.contains(before.group(1));
                Checks.holds("no call inside arguments, at " + i, !call || !parentheses.contains(true));
                parentheses.push(call);
            }
        }
    }

    private static Map<String, String> methodBodies(String source) {
        Map<String, String> bodies = new TreeMap<>();
        Matcher method = METHOD.matcher(source);
        while (method.find()) {
            int end = source.indexOf("\n    }", method.end() - 1);
            bodies.put(method.group(1), source.substring(method.end(), end));
        }
        return bodies;
    }

    private static void methodsAreShort(Map<String, String> bodies) {
        for (Map.Entry<String, String> method : bodies.entrySet()) {
            Checks.holds(method.getKey() + " is short", method.getValue().lines().count() <= 60);
        }
    }

    private static void callsEnd(Map<String, String> bodies) {
        Set<String> level = new TreeSet<>(bodies.keySet());
        int depth = 0;
        // A recursion would never run out of callees.
        while (!level.isEmpty() && depth <= 6) {
            Set<String> next = new TreeSet<>();
            for (String name : level) {
                next.addAll(callees(bodies, name));
            }
            level = next;
            depth++;
        }
        Checks.holds("calls go at most six deep and there is no recursion", level.isEmpty());
    }

    private static Set<String> callees(Map<String, String> bodies, String name) {
        Set<String> callees = new TreeSet<>();
        Matcher call = CALL.matcher(bodies.get(name));
        while (call.find()) {
            if (!NOT_CALLS.contains(call.group(1))) {
                Checks.holds(name + " calls a method of the class: " + call.group(1), bodies.containsKey(call.group(1)));
                if (bodies.containsKey(call.group(1))) {
                    callees.add(call.group(1));
                }
            }
        }
        return callees;
    }
}
