import java.io.IOException;
import java.nio.file.Files;
import java.nio.file.Path;
import java.util.List;

/** What of LANGUAGE.md can be seen in the text of the class; run from the project's folder. */
public final class LanguageTest {
    private static final String[] BARRED = {
        "throw ", "catch ", "finally", "synchronized", "assert ", "->", "::", "getClass", "hashCode", "double ", "float ",
        "while (", "System.out", "new int[][]", "List<", "Exact(", "static {", "import java.util.*"
    };
    private static final int MOST_LINES = 60;

    public static void main(String[] args) throws IOException {
        Check check = new Check();
        List<String> lines = Files.readAllLines(Path.of("src/main/java/BlowOwed.java"));
        for (int i = 0; i < lines.size(); i++) {
            line(check, i + 1, lines.get(i));
        }
        methods(check, lines);
        check.end();
    }

    private static void line(Check check, int number, String line) {
        for (String barred : BARRED) {
            check.isTrue("line " + number + " without " + barred, !line.contains(barred));
        }
        check.isTrue("line " + number + ": signs 1 to 126", line.chars().allMatch(sign -> sign > 0 && sign < 127));
        check.isTrue("line " + number + ": one import", !line.startsWith("import ") || line.equals("import java.util.Arrays;"));
        check.isTrue("line " + number + ": no package", !line.startsWith("package "));
    }

    private static void methods(Check check, List<String> lines) {
        int begin = 0;
        for (int i = 0; i < lines.size(); i++) {
            String line = lines.get(i);
            boolean opens = line.matches("    (    )?(public|private) .*\\) \\{");
            if (opens) {
                begin = i;
                String parameters = line.substring(line.indexOf('(') + 1, line.lastIndexOf(')'));
                check.isTrue("seven parameters: " + line, parameters.split(",").length <= 7);
            }
            if (line.equals("    }") || line.equals("        }")) {
                check.isTrue("short: " + lines.get(begin), i - begin < MOST_LINES || lines.get(begin).contains(" class "));
            }
        }
    }
}
