import java.io.IOException;
import java.nio.file.Files;
import java.nio.file.Path;
import java.util.regex.Matcher;
import java.util.regex.Pattern;

/** The rules of LANGUAGE.md that can be seen in the text of the program. */
public final class LanguageTest {
    private static final Check check = new Check();

    public static void main(String[] args) throws IOException {
        String text = Files.readString(Path.of("src/main/java/SeasonalAdjuster.java"));
        String code = withoutComments(text);
        absent(code, 1, "\\b(package|import|protected)\\b");
        absent(code, 2, "->|::");
        absent(code, 3, "\\b(double|float|Object|Long|Map|Set|var)\\b");
        absent(code, 4, "Exact\\b|\\b(System\\.(?!arraycopy)|Thread|Random|BigInteger)\\b");
        absent(code, 5, "\\bstatic\\s*\\{");
        absent(code, 5, "\\bstatic\\s+(?!final\\b)[\\w\\[\\]]+\\s+\\w+\\s*(=|;)");
        absent(code, 6, "\\b(try|catch|finally|assert|synchronized|equals|hashCode|toString)\\b");
        absent(code, 6, "throw\\s+(?!new (IllegalState|IllegalArgument|IndexOutOfBounds)Exception\\(\"[^\"]*\"\\);)");
        absent(code, 10, "\"\\s*\\+|\\+\\s*\"");
        methodsAreShort(text);
        check.finish();
    }

    private static String withoutComments(String text) {
        return text.replaceAll("(?s)/\\*.*?\\*/", "").replaceAll("//[^\n]*", "");
    }

    private static void absent(String code, int rule, String pattern) {
        Matcher matcher = Pattern.compile(pattern).matcher(code);
        check.isTrue("rule " + rule + " is kept: no " + pattern, !matcher.find());
    }

    // A method begins with a line that opens a block at one of the two depths of members.
    private static void methodsAreShort(String text) {
        int length = 0;
        for (String line : text.split("\n")) {
            length = line.matches(" {4}( {4})?\\w[^;=]*\\) .*\\{|.* class .*") ? 0 : length + 1;
            check.isTrue("rule 11: a method has at most 60 lines, at: " + line, length <= 60);
        }
    }
}
