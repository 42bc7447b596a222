import java.io.IOException;
import java.nio.charset.StandardCharsets;
import java.nio.file.Files;
import java.nio.file.Path;
import java.util.regex.Matcher;
import java.util.regex.Pattern;

/** Those rules of LANGUAGE.md that can be seen from the text of the program. */
public final class LanguageTests {
    private static final Path SOURCE = Path.of("src/main/java/QuorumLog.java");
    private static final int MOST_CLASSES = 12;
    private static final int MOST_LINES = 60;
    private static final int MOST_PARAMETERS = 7;

    private LanguageTests() { }

    public static void main(String[] args) throws IOException {
        String whole = Files.readString(SOURCE, StandardCharsets.UTF_8);
        String code = withoutComments(whole);
        Check.holds("the program is written in ASCII", whole.chars().allMatch(c -> c < 128));
        absent(code, "->", "lambda or switch of the new form");
        absent(code, "::", "method reference");
        absent(code, "\\bpackage\\b", "package line");
        absent(code, "\\b(catch|finally|synchronized|assert|instanceof|var)\\b", "word");
        absent(code, "\\b(Math|Integer)\\.\\w*Exact\\b", "exact function");
        absent(code, "\\b(System\\.(?!arraycopy)|Thread|Random|Object|Arrays\\.(?!copyOf|fill))", "library");
        absent(code, "\"\\s*\\+|\\+\\s*\"", "text joined by +");
        absent(code, "\\bstatic (?!final|int|boolean|class)", "static state");
        absent(code, "\\b(equals|hashCode|toString)\\s*\\(", "equals, hashCode or toString");
        absent(code, "import (?!java\\.util\\.NoSuchElementException;)", "import");
        Check.holds("there are few classes", count(code, "\\bclass \\w+ ") <= MOST_CLASSES);
        parameters(code);
        lengths(code);
        Check.end("LanguageTests");
    }

    private static String withoutComments(String text) {
        return text.replaceAll("(?s)/\\*.*?\\*/", "").replaceAll("//[^\n]*", "");
    }

    private static void absent(String code, String form, String name) {
        Matcher m = Pattern.compile(form).matcher(code);
        Check.holds(name + " is absent: " + form, !m.find());
    }

    private static int count(String code, String form) {
        return (int) Pattern.compile(form).matcher(code).results().count();
    }

    private static void parameters(String code) {
        Matcher m = Pattern.compile("\\w+ \\w+\\(((?:\\w+(?:\\[\\])* \\w+(?:,\\s*)?)+)\\)").matcher(code);
        while (m.find()) {
            Check.holds("few parameters: " + m.group(),
                    m.group(1).split(",").length <= MOST_PARAMETERS);
        }
    }

    /** A method ends with the first brace that stands as far in as its first line. */
    private static void lengths(String code) {
        Matcher m = Pattern.compile("(?m)^( {4}| {8})(?! |\\})[^;{}=]*\\([^;{}]*\\{\n(?s:.*?)\n\\1\\}$")
                .matcher(code);
        while (m.find()) {
            Check.holds("short: " + m.group().lines().findFirst().orElse(""),
                    m.group().lines().count() <= MOST_LINES);
        }
    }
}
