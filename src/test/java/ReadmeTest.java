import java.io.IOException;
import java.nio.file.Files;
import java.nio.file.Path;
import java.util.ArrayList;
import java.util.List;
import java.util.regex.Matcher;
import java.util.regex.Pattern;

/** README.md names the methods of the document's face, all of them and in its order. Run from the root. */
public final class ReadmeTest {
    private static final Pattern IN_DOCUMENT = Pattern.compile("public (boolean|int) (\\w+)\\((.*?)\\);");
    private static final Pattern IN_README = Pattern.compile("(?m)^\\| `(\\w+)\\((.*?)\\)` \\| (boolean|int) \\|");
    private static final Due DUE = new Due();

    public static void main(String[] args) throws IOException {
        String document = Files.readString(Path.of("../shared/DOC.md"));
        String readme = Files.readString(Path.of("README.md"));
        List<String> due = new ArrayList<>();
        Matcher m = IN_DOCUMENT.matcher(document);
        while (m.find()) due.add(m.group(1) + " " + m.group(2) + "(" + m.group(3).replace("int ", "") + ")");
        List<String> told = new ArrayList<>();
        m = IN_README.matcher(readme);
        while (m.find()) told.add(m.group(3) + " " + m.group(1) + "(" + m.group(2) + ")");
        DUE.is("methods of the document", due.size(), 20);
        DUE.holds("README.md tells " + told + ", due is " + due, told.equals(due));
        String[] headings = {"### The constructor", "### The methods", "### What NONE and false mean", "### For how many calls", "## How to run its tests"};
        for (String heading : headings) DUE.holds("README.md has '" + heading + "'", readme.contains("\n" + heading + "\n"));
        DUE.holds("README.md tells of 512 calls", readme.contains("at most 512 calls"));
        DUE.end();
    }
}
