import java.io.IOException;
import java.nio.file.Files;
import java.nio.file.Path;
import java.util.regex.Matcher;
import java.util.regex.Pattern;

/** Those rules of LANGUAGE.md that can be read off the text of the program. */
public final class LanguageTest {
    private static final String[] FORBIDDEN = {
        "package", "import", "float", "double", "String", "Object", "Math", "Integer", "Long", "System", "Arrays",
        "null", "throw", "throws", "try", "catch", "synchronized", "assert", "instanceof", "class [A-Z]\\w* \\w",
        "interface", "enum", "record", "protected", "static \\{",
    };

    private LanguageTest() {
    }

    public static void main(String[] args) throws IOException {
        String source = Files.readString(Path.of("src/main/java/RecoveryLine.java"));
        String code = source.replaceAll("(?s)/\\*.*?\\*/", "").replaceAll("//[^\n]*", "");
        for (String word : FORBIDDEN) {
            Checks.due("uses of " + word, count(code, "\\b" + word + "(?!\\w)"), 0);
        }
        Checks.due("lambdas, method references and texts", count(code, "->|::|\""), 0);
        Checks.due("classes", count(code, "\\bclass\\b"), 1);
        Checks.due("arrays made elsewhere than in a field", count(code, "\\bnew\\b"),
                count(code, "(?m)^    private final (int|boolean)\\[\\] \\w+ = new \\1\\[[A-Z_]+\\];$"));
        Checks.due("arrays of arrays", count(code, "\\[\\]\\s*\\["), 0);
        Checks.due("calls inside the arguments of a call",
                count(code, "(?<!if |for |while |switch )\\((?<=\\w\\()[^()]*\\b[a-z]\\w*\\("), 0);
        Checks.finish();
    }

    private static int count(String text, String pattern) {
        Matcher matcher = Pattern.compile(pattern).matcher(text);
        int found = 0;
        while (matcher.find()) {
            found++;
        }
        return found;
    }
}
