import java.io.IOException;
import java.nio.file.Files;
import java.nio.file.Path;
import java.util.regex.Matcher;
import java.util.regex.Pattern;

/** What LANGUAGE.md forbids and a pattern can find in the class's text. It finds much of it, but not all. */
public final class LanguageTest {
    private static final String[][] FORBIDDEN = {
        {"1", "^package\\b", "\\bprotected\\b"},
        {"2", "->", "::"},
        {"3", "\\b(Object|Long|Short|Byte|Character|Boolean|Double|Float|Map|Set|HashMap|Optional)\\b(?!\\.)"},
        {"4", "^import (?!java\\.util\\.(Arrays|ArrayList|List|Iterator|NoSuchElementException);)",
            "\\b(split|format|valueOf|join|sort|stream|printf)\\(", "Exact\\(", "\\bSystem\\.(?!arraycopy)"},
        {"5", "\\bstatic \\{", "(?m)^ +private static (?!final|class)\\w+(\\[\\])* \\w+( =|;)"},
        {"6", "\\b(try|catch|finally|synchronized|assert|volatile)\\b", "\\b(equals|hashCode|toString)\\([^)]",
            "throw new (?!(IllegalState|IllegalArgument|IndexOutOfBounds)Exception\\(\"[a-z ]+\"\\);)"},
        {"10", "\"[^\"\\n]*\" \\+", "\\+ \"", "\\bmatch\\b"},
        {"13", "\\b(Random|Thread|currentTimeMillis|nanoTime)\\b"},
    };
    private static final int MOST_LINES_OF_A_METHOD = 60;

    private LanguageTest() {
    }

    public static void main(String[] args) throws IOException {
        String text = Files.readString(Path.of("src/main/java/Steplode.java"));
        String code = text.replaceAll("(?s)/\\*.*?\\*/", "").replaceAll("//[^\\n]*", "");
        for (String[] rule : FORBIDDEN) {
            for (int n = 1; n < rule.length; n++) {
                Matcher found = Pattern.compile(rule[n], Pattern.MULTILINE).matcher(code);
                Checks.same("rule " + rule[0] + ", " + rule[n], "none", found.find() ? found.group() : "none");
            }
        }
        int signs = 0;
        for (int at = 0; at < text.length(); at++) {
            signs += text.charAt(at) > 127 ? 1 : 0;
        }
        Checks.same("signs above 127", "0", "" + signs);
        Checks.same("classes", "true", "" + (Pattern.compile("\\bclass\\b").matcher(code).results().count() <= 12));
        methodsAreShort(code);
        Checks.end();
    }

    /** A method of the class begins four signs in, one of a class inside eight: each ends at a brace as far in. */
    private static void methodsAreShort(String code) {
        String head = "(?m)^(    |        )(?! )[^\\n;=]*\\([^\\n;]*\\n?[^\\n;]*\\{\\n";
        Matcher method = Pattern.compile(head).matcher(code);
        while (method.find()) {
            int end = code.indexOf("\n" + method.group(1) + "}", method.end() - 1);
            long lines = end < 0 ? 0 : code.substring(method.start(), end).lines().count();
            Checks.same("lines of " + method.group().trim(), "true", "" + (lines <= MOST_LINES_OF_A_METHOD));
        }
    }
}
