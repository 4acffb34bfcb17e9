import java.io.IOException;
import java.nio.file.Files;
import java.nio.file.Path;
import java.util.regex.Matcher;
import java.util.regex.Pattern;

/** Rules of LANGUAGE.md that a look at the words of the source can hold. Run from the project's root. */
public final class SourceTest {
    private static final String[] BARRED = {
        "\\b(throw|throws|try|catch|finally|synchronized|assert|volatile|import|package|protected|native)\\b",
        "->", "::", "\\bstatic\\s*\\{", "\\b(Object|Exception|System\\.(?!arraycopy\\b)\\w+)\\b", "\\w+Exact\\b",
        "\\b(Integer|Long|Math)\\b(?!\\.\\w+\\()",
        "\\bwhile\\s*\\(\\s*true", "for\\s*\\(\\s*;\\s*;", "[^\\x00-\\x7f]"};
    private static int wrong = 0;

    public static void main(String[] args) throws IOException {
        String source = Files.readString(Path.of("src/main/java/TermsDesk.java"));
        String code = source.replaceAll("(?s)/\\*.*?\\*/", "").replaceAll("//[^\n]*", "");
        for (String barred : BARRED) {
            Matcher m = Pattern.compile(barred).matcher(code);
            while (m.find()) say("barred: " + m.group());
        }
        onlyConstructorsMakeObjects(code);
        System.out.println(wrong == 0 ? "the source keeps to these rules" : wrong + " places in the source are wrong");
        if (wrong != 0) System.exit(1);
    }

    /** A "new" stands in a field's initialiser or sets a field of the desk: so no call makes anything. */
    private static void onlyConstructorsMakeObjects(String code) {
        for (String line : code.split("\n")) {
            if (line.matches(".*\\bnew\\b.*") && !line.matches("\\s+(private final \\w+\\[\\] )?\\w+ = new .*;")) say("makes: " + line.trim());
        }
    }

    private static void say(String text) {
        wrong++;
        System.out.println(text);
    }
}
