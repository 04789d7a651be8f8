import java.nio.file.Files;
import java.nio.file.Path;
import java.util.regex.Matcher;
import java.util.regex.Pattern;

/** What of ../shared/LANGUAGE.md can be seen in the text of the class: run where .ci/run stands. */
public final class LanguageTest {
    private static final String[] FORBIDDEN = {
        "import", "package", "throw", "throws", "try", "catch", "finally", "synchronized", "assert", "->", "::",
        "protected", "double", "float", "equals", "hashCode", "toString", "System", "Object", "Exact", "Class",
        "Thread", "Random", "native", "volatile", "transient", "var", "yield", "sealed",
    };

    public static void main(String[] args) throws java.io.IOException {
        String text = Files.readString(Path.of("src/main/java/DoubtSale.java"));
        String code = text.replaceAll("(?s)/\\*.*?\\*/", "").replaceAll("//[^\n]*", "");
        for (String word : FORBIDDEN) {
            String edge = Character.isLetter(word.charAt(0)) && !word.equals("Exact") ? "\\b" : "";
            Check.due("uses of " + word, found(code, edge + Pattern.quote(word) + edge), 0);
        }
        Check.due("static classes inside less all classes inside",
                found(code, "static final class") + 1, found(code, "\\bclass\\b"));
        Check.due("signs above 126", found(text, "[^\\n\\x20-\\x7e]"), 0);
        methodLengths(code);
        Check.end();
    }

    private static int found(String text, String pattern) {
        Matcher matcher = Pattern.compile(pattern).matcher(text);
        int many = 0;
        while (matcher.find()) {
            many++;
        }
        return many;
    }

    private static void methodLengths(String code) {
        int start = 0;
        String[] lines = code.split("\n");
        for (int at = 0; at < lines.length; at++) {
            if (lines[at].matches("    (    )?(public|private|static|[A-Za-z]+)? ?[^=;]*\\) \\{")) {
                start = at;
            }
            if (lines[at].matches("    (    )?\\}")) {
                Check.due("lines of the method that ends at " + (at + 1) + " over 60", Math.max(0, at - start - 59), 0);
            }
        }
    }
}
