import java.nio.charset.StandardCharsets;
import java.nio.file.Files;
import java.nio.file.Path;
import java.util.regex.Matcher;
import java.util.regex.Pattern;

/** What of ../shared/LANGUAGE.md can be seen in the source's text. */
public final class LanguageTest {
    private static final Path SOURCE = Path.of("src/main/java/BirchLeaf.java");
    private static final String[] NEVER = {
        "throw", "throws", "try", "catch", "finally", "synchronized", "assert", "import", "package", "float", "double",
        "native", "volatile", "transient", "yield", "var", "goto", "strictfp", "Thread", "System\\.(?!arraycopy\\b)\\w+",
        "\\w+Exact", "Object", "Class", "Random", "Math\\.(?!min\\b|max\\b|abs\\b)\\w+"};
    private static final Pattern HEAD = Pattern.compile("^ {4,8}[a-zA-Z][\\w\\[\\] ]*\\([^)]*\\) \\{$");

    private LanguageTest() {
    }

    public static void main(String[] args) throws Exception {
        String text = Files.readString(SOURCE, StandardCharsets.ISO_8859_1);
        for (int i = 0; i < text.length(); i++) {
            char sign = text.charAt(i);
            if (sign != '\n' && (sign < 32 || sign > 126)) {
                Checks.that("plain signs alone, not " + (int) sign + " at " + i, false);
            }
        }
        String code = bare(text);
        for (String word : NEVER) {
            Matcher found = Pattern.compile("\\b" + word + "\\b").matcher(code);
            Checks.that("no " + word, !found.find());
        }
        Checks.that("no lambda", !code.contains("->"));
        Checks.that("no method reference", !code.contains("::"));
        Checks.that("no joining of texts by +", !code.contains("\"\" +") && !code.contains("+ \"\""));
        lines(code.split("\n"));
        Checks.end("LanguageTest");
    }

    /** The text without its comments and without what stands in quotes. */
    private static String bare(String text) {
        return text.replaceAll("(?s)/\\*.*?\\*/", "").replaceAll("//[^\n]*", "")
                .replaceAll("\"[^\"\n]*\"", "\"\"").replaceAll("'[^'\n]+'", "' '");
    }

    private static void lines(String[] lines) {
        int head = -1;
        for (int i = 0; i < lines.length; i++) {
            String line = lines[i];
            boolean makes = Pattern.compile("\\bnew\\b").matcher(line).find();
            Checks.that("made once, in a field: " + line, !makes || line.matches(" +private final [\\w\\[\\]]+ \\w+ = new .*;"));
            if (HEAD.matcher(line).matches()) {
                head = i;
            }
            if (head >= 0 && line.equals(indent(lines[head]) + "}")) {
                Checks.that("some sixty lines at most: " + lines[head].trim(), i - head <= 60);
                head = -1;
            }
        }
    }

    private static String indent(String line) {
        return line.substring(0, line.length() - line.stripLeading().length());
    }
}
