import java.io.IOException;
import java.lang.reflect.Method;
import java.lang.reflect.Modifier;
import java.nio.file.Files;
import java.nio.file.Path;
import java.util.List;
import java.util.TreeMap;
import java.util.TreeSet;
import java.util.regex.Matcher;
import java.util.regex.Pattern;

/** The examples of README.md, read from the file itself: each call answers what the comment behind it says. */
public final class ReadmeTest {
    private static final String README = "README.md";
    private static final String FENCE = "```";
    private static final String JAVA_FENCE = FENCE + "java";
    private static final String NEW_OBJECT = "SparseFormulas x = new SparseFormulas();";

    private static final String NUMBER = "-?\\d+";
    private static final String ARGUMENT = "(?:" + NUMBER + "|SparseFormulas\\.[A-Z_]+)";
    private static final String ANSWER = NUMBER + "|[A-Z_]+|true|false|nothing";
    private static final Pattern CALL = Pattern.compile(
        "x\\.(\\w+)\\(((?:" + ARGUMENT + "(?:, " + ARGUMENT + ")*)?)\\); +// (" + ANSWER + ")(?:: \\S.*)?");

    // An object is used for at most 512 calls.
    private static final int MAX_CALLS = 512;

    private static final TreeMap<String, Method> METHODS = new TreeMap<>();
    private static final TreeSet<String> NOT_SHOWN = new TreeSet<>();

    public static void main(String[] args) throws IOException, ReflectiveOperationException {
        for (Method m : SparseFormulas.class.getDeclaredMethods()) {
            if (Modifier.isPublic(m.getModifiers())) {
                METHODS.put(m.getName(), m);
                NOT_SHOWN.add(m.getName());
            }
        }
        List<String> lines = Files.readAllLines(Path.of(README));
        int at = 0;
        while (at < lines.size()) {
            at = lines.get(at).equals(JAVA_FENCE) ? example(lines, at + 1) : at + 1;
        }
        Check.due("methods that no example shows: " + NOT_SHOWN, NOT_SHOWN.size(), 0);
        Check.end();
    }

    /** Runs the example that begins at a line, and answers the line after its end. */
    private static int example(List<String> lines, int first) throws ReflectiveOperationException {
        Check.due(where(first) + " begins with a new object", lineAt(lines, first).equals(NEW_OBJECT), true);
        SparseFormulas x = new SparseFormulas();
        int at = first + 1;
        while (at < lines.size() && !lines.get(at).equals(FENCE)) {
            call(x, where(at), lines.get(at));
            at++;
        }
        Check.due(where(first) + " has calls", at > first + 1, true);
        Check.due(where(first) + " has at most " + MAX_CALLS + " calls", at - first - 1 <= MAX_CALLS, true);
        Check.due(where(first) + " has an end", lineAt(lines, at).equals(FENCE), true);
        return at + 1;
    }

    private static void call(SparseFormulas x, String where, String line) throws ReflectiveOperationException {
        Matcher found = CALL.matcher(line);
        if (!found.matches() || !METHODS.containsKey(found.group(1))) {
            Check.fault(where + " is no call with its answer: " + line);
            return;
        }
        Method method = METHODS.get(found.group(1));
        Object[] arguments = arguments(found.group(2));
        if (arguments.length != method.getParameterCount()) {
            Check.fault(where + " has a wrong number of arguments: " + line);
            return;
        }
        NOT_SHOWN.remove(method.getName());
        Object answer = method.invoke(x, arguments);
        String got = answer == null ? "nothing" : answer.toString();
        if (!got.equals(plain(found.group(3)))) {
            Check.fault(where + ": " + line + " answered " + got);
        }
    }

    private static Object[] arguments(String text) throws ReflectiveOperationException {
        String[] words = text.isEmpty() ? new String[0] : text.split(", ");
        Object[] arguments = new Object[words.length];
        for (int k = 0; k < words.length; k++) {
            arguments[k] = Integer.valueOf(plain(words[k].replace("SparseFormulas.", "")));
        }
        return arguments;
    }

    /** A word as an answer is printed: the number of a constant for its name, any other word as it stands. */
    private static String plain(String word) throws ReflectiveOperationException {
        boolean isName = Character.isUpperCase(word.charAt(0));
        return isName ? SparseFormulas.class.getField(word).get(null).toString() : word;
    }

    private static String lineAt(List<String> lines, int at) {
        return at < lines.size() ? lines.get(at) : "";
    }

    private static String where(int at) {
        return README + ":" + (at + 1);
    }
}
