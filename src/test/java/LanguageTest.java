import java.nio.charset.StandardCharsets;
import java.nio.file.Files;
import java.nio.file.Path;
import java.util.regex.Matcher;
import java.util.regex.Pattern;

/** The rules of ../shared/LANGUAGE.md that a look at the source's words can tell. */
public final class LanguageTest {
    public static void main(String[] args) throws Exception {
        Check c = new Check();
        String source = Files.readString(Path.of(args[0]), StandardCharsets.US_ASCII);
        String code = source.replaceAll("(?s)/\\*.*?\\*/", " ").replaceAll("//[^\\n]*", " ");
        String bare = code.replaceAll("\"[^\"\\n]*\"", "\"\"").replaceAll("'[^'\\n]'", "0");
        String[] never = {
            "\\b(throw|try|catch|synchronized|assert|import|package|native|var|goto|record|instanceof)\\b",
            "->", "::", "@", "\\b(equals|hashCode|toString|getClass)\\b", "Exact\\b", "\\bstatic\\s*\\{",
            "\\b(System\\.(?!arraycopy)\\w+|Object|Thread|Random|float|double)\\b", "\"\"\\s*\\+", "\\+\\s*\"\"",
            "while\\s*\\(\\s*true", "for\\s*\\(\\s*;\\s*;",
        };
        for (String rule : never) {
            Matcher m = Pattern.compile(rule).matcher(bare);
            c.holds("rule " + rule + (m.find() ? " broken: " + m.group() : ""), !m.reset().find());
        }
        int classes = 0;
        Matcher m = Pattern.compile("\\b(class|enum|interface)\\s+\\w+").matcher(bare);
        while (m.find()) classes++;
        c.holds("at most twelve classes: " + classes, classes <= 12);
        c.holds("no object is made but in a constructor or a field: ", newsAreEarly(bare));
        Matcher used = Pattern.compile("\\b(Math|Integer|Long|System|Arrays|List|WORDS|SIGNS|FIRST_RULE)\\.(\\w+)").matcher(bare);
        while (used.find()) {
            c.holds("of the library: " + used.group(), used.group(2).matches("min|max|abs|arraycopy|length|charAt|indexOf"));
        }
        int longest = longestMethod(bare);
        c.holds("some sixty lines at most, the longest method has " + longest, longest > 0 && longest <= 60);
        c.end();
    }

    /** Calls make nothing, so that a run's room does not depend on how long it is. */
    private static boolean newsAreEarly(String code) {
        for (String line : code.split("\n")) {
            if (!line.matches(".*\\bnew\\b.*")) continue;
            if (!line.matches("\\s*(private final int\\[\\](\\[\\])? \\w+|\\w+) = new .*")) return false;
        }
        return true;
    }

    /** A method ends where a line's brace stands as far in as its head does. */
    private static int longestMethod(String code) {
        int longest = 0;
        int from = 0;
        String end = "";
        String[] lines = code.split("\n");
        for (int i = 0; i < lines.length; i++) {
            if (lines[i].matches(" +(public|private) .*\\) \\{")) {
                from = i;
                end = lines[i].substring(0, lines[i].indexOf('p')) + "}";
            }
            if (lines[i].equals(end)) longest = Math.max(longest, i - from + 1);
        }
        return longest;
    }
}
