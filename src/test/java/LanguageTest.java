import com.sun.source.tree.CompilationUnitTree;
import com.sun.source.util.JavacTask;
import java.io.IOException;
import java.nio.charset.StandardCharsets;
import java.nio.file.Files;
import java.nio.file.Path;
import java.util.List;
import javax.tools.JavaCompiler;
import javax.tools.StandardJavaFileManager;
import javax.tools.ToolProvider;

/** What of LANGUAGE.md can be seen in the class, as the compiler reads it; run from the project's folder. */
public final class LanguageTest {
    private static final Path CLASS = Path.of("src/main/java/BlowOwed.java");

    public static void main(String[] args) throws IOException {
        Check check = new Check();
        for (String line : Files.readAllLines(CLASS)) {
            check.isTrue("signs 1 to 126: " + line, line.chars().allMatch(sign -> sign > 0 && sign < 127));
            check.isTrue("one import: " + line, !line.startsWith("import ") || line.equals("import java.util.Arrays;"));
            check.isTrue("no package: " + line, !line.startsWith("package "));
        }
        JavaCompiler compiler = ToolProvider.getSystemJavaCompiler();
        try (StandardJavaFileManager files = compiler.getStandardFileManager(null, null, StandardCharsets.UTF_8)) {
            JavacTask task = (JavacTask) compiler.getTask(null, files, null, List.of("-proc:none"), null,
                files.getJavaFileObjects(CLASS));
            CompilationUnitTree unit = task.parse().iterator().next();
            task.analyze();
            LanguageRules rules = new LanguageRules(check, task, unit);
            rules.scan(unit, null);
            rules.end();
        }
        check.end();
    }
}
