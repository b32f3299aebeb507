import java.io.IOException;
import java.nio.file.Files;
import java.nio.file.Path;
import java.util.Map;
import java.util.Set;
import java.util.TreeMap;
import java.util.TreeSet;
import java.util.regex.Matcher;
import java.util.regex.Pattern;

/** Those rules of LANGUAGE.md that can be read off the text of the program. */
public final class LanguageTest {
    private static final String[] FORBIDDEN = {
        "package", "import", "float", "double", "String", "Object", "Math", "Integer", "Long", "System", "Arrays",
        "null", "throw", "throws", "try", "catch", "synchronized", "assert", "instanceof", "class [A-Z]\\w* \\w",
        "interface", "enum", "record", "protected", "static \\{",
    };

    // Name, parameters and body of a method or of the constructor.
    private static final Pattern METHOD = Pattern.compile("(?ms)^    (?:public|private) (?:static )?"
            + "(?:(?:int|boolean|void) )?(\\w+)\\(([^)]*)\\) \\{\n(.*?)^    \\}$");

    private LanguageTest() {
    }

    public static void main(String[] args) throws IOException {
        String source = Files.readString(Path.of("src/main/java/RecoveryLine.java"));
        String code = source.replaceAll("(?s)/\\*.*?\\*/", "").replaceAll("//[^\n]*", "");
        words(code);
        arrays(code);
        methods(code);
        callDepth(calls(code));
        Checks.finish();
    }

    private static void words(String code) {
        for (String word : FORBIDDEN) {
            Checks.due("uses of " + word, count(code, "\\b" + word + "(?!\\w)"), 0);
        }
        Checks.due("lambdas, method references and texts", count(code, "->|::|\""), 0);
        Checks.due("classes", count(code, "\\bclass\\b"), 1);
        Checks.due("loops without a counter", count(code, "\\b(while|do)\\b"), 0);
        Checks.due("loops with a counter and its bound",
                count(code, "\\bfor \\(int (\\w+) = 0; [^;]*\\b\\1 < [^;]*; \\1\\+\\+\\)"), count(code, "\\bfor \\("));
    }

    private static void arrays(String code) {
        Checks.due("arrays made elsewhere than in a field", count(code, "\\bnew\\b"),
                count(code, "(?m)^    private final (int|boolean)\\[\\] \\w+ = new \\1\\[[A-Z_]+\\];$"));
        Checks.due("arrays of arrays", count(code, "\\[\\]\\s*\\["), 0);
        Checks.due("static arrays", count(code, "static [^(;]*\\[\\]"), 0);
    }

    private static void methods(String code) {
        Checks.due("calls inside the arguments of a call",
                count(code, "(?<!if |for |while |switch )\\((?<=\\w\\()[^()]*\\b[a-z]\\w*\\("), 0);
        Checks.due("at most forty fields", count(code, "(?m)^    private final ") <= 40, true);
        Matcher method = METHOD.matcher(code);
        while (method.find()) {
            String name = method.group(1);
            Checks.due(name + " has at most seven parameters", count(method.group(2), ",") < 7, true);
            Checks.due(name + " has at most sixty lines", count(method.group(3), "\n") <= 60, true);
        }
    }

    private static Map<String, Set<String>> calls(String code) {
        Map<String, Set<String>> calls = new TreeMap<>();
        Matcher method = METHOD.matcher(code);
        while (method.find()) {
            Set<String> called = new TreeSet<>();
            Matcher call = Pattern.compile("\\b(\\w+)\\(").matcher(method.group(3));
            while (call.find()) {
                called.add(call.group(1));
            }
            Checks.same(method.group(1) + " stands once", calls.put(method.group(1), called) == null, true);
        }
        Checks.due("methods found", calls.size(), count(code, "(?m)^    \\w[^;=]*\\{$"));
        return calls;
    }

    /** A method that calls none has depth 1; methods that call each other in a ring never settle. */
    private static void callDepth(Map<String, Set<String>> calls) {
        Map<String, Integer> depths = new TreeMap<>();
        boolean settled = false;
        for (int round = 0; round <= calls.size() && !settled; round++) {
            settled = true;
            for (String name : calls.keySet()) {
                int depth = 1;
                for (String called : calls.get(name)) {
                    Checks.due(called + ", called by " + name + ", is a method", calls.containsKey(called), true);
                    depth = Math.max(depth, 1 + depths.getOrDefault(called, 1));
                }
                settled &= depths.getOrDefault(name, 0) == depth;
                depths.put(name, depth);
            }
        }
        Checks.due("there is no recursion", settled, true);
        for (String name : depths.keySet()) {
            Checks.due("calls from " + name + " on go at most six deep", depths.get(name) <= 6, true);
        }
    }

    private static int count(String text, String pattern) {
        Matcher matcher = Pattern.compile(pattern).matcher(text);
        int found = 0;
        while (matcher.find()) {
            found++;
        }
        return found;
    }
}
