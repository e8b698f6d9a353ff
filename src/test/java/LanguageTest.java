import java.io.IOException;
import java.nio.file.Files;
import java.nio.file.Path;
import java.util.Set;
import java.util.TreeSet;
import java.util.regex.Matcher;
import java.util.regex.Pattern;

/** Those rules of LANGUAGE.md that a look at the source can tell. Run from the project's folder. */
public final class LanguageTest {
    private static final String[] FORBIDDEN = {"\\bthrow\\b", "\\btry\\b", "\\bcatch\\b",
        "\\bsynchronized\\b", "\\bassert\\b", "->", "::", "\\bimport\\b", "\\bpackage\\b",
        "\\bprotected\\b", "\\bwhile\\s*\\(true\\)", "\\bstatic\\s*\\{", "Exact\\b", "\\bvar\\b",
        "\\bvolatile\\b", "\\bnative\\b", "@", "\\bdouble\\b", "\\bfloat\\b", "\\bThread\\b"};
    private static final Set<String> LIBRARY = Set.of("Math.max", "Math.min", "Math.abs",
        "Integer.bitCount", "System.arraycopy", "Arrays.fill", "Arrays.copyOf");

    private LanguageTest() {
    }

    public static void main(String[] args) throws IOException {
        String source = Files.readString(Path.of("src/main/java/WireGuess.java"));
        for (int k = 0; k < source.length(); k++) {
            if (source.charAt(k) > 126) {
                Due.holds("a sign beyond 126 at " + k, false);
            }
        }
        String code = source.replaceAll("(?s)/\\*.*?\\*/", "").replaceAll("//[^\n]*", "");
        for (String words : FORBIDDEN) {
            Due.holds("no " + words, !Pattern.compile(words).matcher(code).find());
        }
        library(code);
        sizes(source);
        rowsAreMadeOnce(code);
        Due.close("LanguageTest");
    }

    private static void library(String code) {
        Set<String> used = new TreeSet<>();
        Matcher matcher = Pattern.compile("\\b(Math|Integer|Long|System|Arrays|List|String)\\.\\w+")
            .matcher(code);
        while (matcher.find()) {
            used.add(matcher.group());
        }
        Due.holds("the library " + used, LIBRARY.containsAll(used));
    }

    private static void sizes(String source) {
        int classes = 0;
        int fields = 0;
        int bodyFrom = -1;
        int line = 0;
        Pattern method = Pattern.compile("^ {4,8}[a-z][\\w ]*[\\w\\[\\]]+ \\w+\\(.*\\) \\{$");
        for (String text : source.split("\n")) {
            line++;
            if (text.matches(".*\\bclass \\w+ \\{")) {
                classes++;
                fields = 0;
            }
            if (text.matches("^ {4,8}private (final )?[\\w\\[\\]]+ \\w+( =.*)?;")) {
                fields++;
                Due.holds("fields at line " + line, fields <= 20);
            }
            if (method.matcher(text).matches()) {
                bodyFrom = line;
                Due.holds("parameters at line " + line, text.split(",").length <= 7);
            }
            if (bodyFrom > 0 && text.matches("^ {4,8}\\}$")) {
                Due.holds("the method from line " + bodyFrom + " is short", line - bodyFrom <= 60);
                bodyFrom = text.startsWith("        ") || text.startsWith("    }") ? -1 : bodyFrom;
            }
        }
        Due.holds("classes: " + classes, classes >= 1 && classes <= 12);
    }

    /** What is made stands in fields' initialisers, so that no call makes anything. */
    private static void rowsAreMadeOnce(String code) {
        for (String text : code.split("\n")) {
            if (text.matches(".*\\bnew\\b.*")) {
                Due.holds("made in a field: " + text.trim(),
                    text.matches("^ {4,8}private (final )?[\\w\\[\\]]+ \\w+ = .*;$"));
            }
        }
    }
}
