import java.nio.file.Files;
import java.nio.file.Path;
import java.util.regex.Matcher;
import java.util.regex.Pattern;

/** Those rules of LANGUAGE.md that can be seen in the text of the program. Run it in the project's directory. */
public final class LanguageTests {
    private static final String[] WORDS = {
        "throw", "throws", "try", "catch", "finally", "synchronized", "assert", "import", "package", "protected",
        "record", "volatile", "native", "instanceof", "Exception", "System", "Object", "HashMap", "TreeMap",
        "StringTokenizer", "StringJoiner", "Properties", "Character", "compareTo", "format", "valueOf", "toString"};
    private static final String[] SIGNS = {"->", "::", "@", "String[]", "String ["};

    public static void main(String[] args) throws Exception {
        String source = Files.readString(Path.of("src/main/java/SettingsDrawer.java"));
        for (char c : source.toCharArray()) {
            if (c > 126) {
                Check.due("a sign of the source", c, 126);
            }
        }
        String code = withoutCommentsAndTexts(source);
        for (String word : WORDS) {
            Matcher found = Pattern.compile("\\b" + word + "\\b").matcher(code);
            int times = 0;
            while (found.find()) {
                times += allowed(code, word, found.start()) ? 0 : 1;
            }
            Check.due("uses of " + word, times, 0);
        }
        for (String sign : SIGNS) {
            Check.due("uses of " + sign, code.contains(sign) ? 1 : 0, 0);
        }
        Check.due("texts that are joined by +", Pattern.compile("\"\"\\s*\\+|\\+\\s*\"\"").matcher(code).find() ? 1 : 0, 0);
        methodLengths(code);
        Check.finish("LanguageTests");
    }

    /** toString() is allowed of a StringBuilder, and valueOf is a name of the program's own. */
    private static boolean allowed(String code, String word, int start) {
        String line = code.substring(code.lastIndexOf('\n', start) + 1, code.indexOf('\n', start));
        return word.equals("toString") && line.matches(".*(longer|all|unescaped)\\.toString\\(\\).*")
            || word.equals("valueOf") && !line.contains("String.valueOf") && !line.contains("Integer.valueOf");
    }

    private static String withoutCommentsAndTexts(String source) {
        return source.replaceAll("'(\\\\.|[^'\\\\])'", "''").replaceAll("\"(\\\\.|[^\"\\\\])*\"", "\"\"")
            .replaceAll("(?s)/\\*.*?\\*/", "").replaceAll("//[^\n]*", "");
    }

    private static void methodLengths(String code) {
        int start = 0;
        int longest = 0;
        String[] lines = code.split("\n");
        for (int i = 0; i < lines.length; i++) {
            if (lines[i].matches(" {4}( {4})?[a-zA-Z].*\\) \\{")) {
                start = i;
            }
            if (lines[i].matches(" {4}( {4})?\\}")) {
                longest = Math.max(longest, i - start - 1);
            }
        }
        Check.due("methods are found", longest > 5 ? 1 : 0, 1);
        Check.due("lines of the longest method, if beyond 60", longest > 60 ? longest : 0, 0);
    }
}
