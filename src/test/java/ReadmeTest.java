import java.io.IOException;
import java.lang.reflect.Method;
import java.lang.reflect.Modifier;
import java.nio.file.Files;
import java.nio.file.Path;
import java.util.Arrays;
import java.util.regex.Matcher;
import java.util.regex.Pattern;

/** README.md's example answers as it says, and its table has every call of the face; run from the project's folder. */
public final class ReadmeTest {
    private static final String BEGIN = "BlowOwed x = new BlowOwed();";
    private static final Pattern CALL = Pattern.compile("x\\.(\\w+)\\(([-\\d, ]*)\\); *// (-?\\w+).*");
    private static final Pattern TEXT = Pattern.compile("write\\(x, \"([!-~]+)\"\\);.*");

    public static void main(String[] args) throws IOException, ReflectiveOperationException {
        Check check = new Check();
        String page = Files.readString(Path.of("README.md"));
        example(check, page);
        for (Method method : BlowOwed.class.getDeclaredMethods()) {
            if (Modifier.isPublic(method.getModifiers())) {
                String named = "`" + method.getName() + "\\((\\w+(, )?){" + method.getParameterCount() + "}\\)`";
                check.isTrue("a table names " + method.getName(), Pattern.compile(named).matcher(page).find());
            }
        }
        check.end();
    }

    private static void example(Check check, String page) throws ReflectiveOperationException {
        int begin = page.indexOf(BEGIN);
        int end = page.indexOf("```", Math.max(0, begin));
        check.isTrue("there is an example", begin >= 0 && end > begin);
        BlowOwed x = new BlowOwed();
        for (String line : page.substring(begin + BEGIN.length(), end).split("\n")) {
            Matcher call = CALL.matcher(line);
            Matcher text = TEXT.matcher(line);
            if (call.matches()) {
                check.due(line, answer(x, call.group(1), call.group(2)), number(call.group(3)));
            } else if (text.matches()) {
                text.group(1).chars().forEach(x::say);
            } else {
                check.isTrue("a call with its answer, or a text: " + line, line.isBlank());
            }
        }
    }

    private static long answer(BlowOwed x, String name, String arguments) throws ReflectiveOperationException {
        Object[] given = arguments.isBlank() ? new Object[0]
            : Arrays.stream(arguments.split(", ")).map(Integer::valueOf).toArray();
        Class<?>[] types = new Class<?>[given.length];
        Arrays.fill(types, int.class);
        return ((Number) BlowOwed.class.getMethod(name, types).invoke(x, given)).longValue();
    }

    private static long number(String word) throws ReflectiveOperationException {
        return word.matches("[A-Z]+") ? BlowOwed.class.getField(word).getInt(null) : Long.parseLong(word);
    }
}
