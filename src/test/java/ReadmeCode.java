import java.io.IOException;
import java.nio.file.Files;
import java.nio.file.Path;
import java.util.regex.Matcher;
import java.util.regex.Pattern;

/**
 * Prints a program, ReadmeRun, made of the java blocks of README.md: it makes the calls as they stand
 * there and looks at every answer shown. A call without its answer is a fault. Run from the root.
 */
public final class ReadmeCode {
    private static final Pattern BLOCK = Pattern.compile("(?ms)^```java\\n(.*?)^```$");
    private static final Pattern CALL = Pattern.compile("(?:int (\\w+) = )?(desk\\.\\w+\\([^;]*\\));\\s*// (-?\\d+|NONE|true|false)(:.*)?");
    private static final String HEAD = """
        public final class ReadmeRun {
            private static final Due DUE = new Due();
            private static void same(String call, int got, int want) { DUE.is(call, got, want); }
            private static void same(String call, boolean got, boolean want) { DUE.is(call, got ? 1 : 0, want ? 1 : 0); }
        """;

    public static void main(String[] args) throws IOException {
        StringBuilder program = new StringBuilder(HEAD);
        StringBuilder runs = new StringBuilder();
        Matcher blocks = BLOCK.matcher(Files.readString(Path.of("README.md")));
        for (int n = 1; blocks.find(); n++) {
            program.append("private static void block").append(n).append("() {\n");
            for (String line : blocks.group(1).split("\n")) program.append(statement(line.trim())).append('\n');
            program.append("}\n");
            runs.append("block").append(n).append("();\n");
        }
        System.out.print(program + "public static void main(String[] args) {\n" + runs + "DUE.end();\n}\n}\n");
    }

    private static String statement(String line) {
        Matcher call = CALL.matcher(line);
        if (call.matches()) return checked(call.group(1), call.group(2), call.group(3));
        if (line.contains("desk.")) {
            System.err.println("README.md shows a call without its answer: " + line);
            System.exit(1);
        }
        return line;
    }

    private static String checked(String name, String call, String want) {
        String told = "same(\"README.md: " + call + "\", ";
        if (name == null) return told + call + ", " + want + ");";
        return "int " + name + " = " + call + ";\n" + told + name + ", " + want + ");";
    }
}
