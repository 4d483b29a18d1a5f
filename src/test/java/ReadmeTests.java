import java.io.IOException;
import java.lang.reflect.InvocationTargetException;
import java.lang.reflect.Method;
import java.nio.file.Files;
import java.nio.file.Path;
import java.util.regex.Matcher;
import java.util.regex.Pattern;

/**
 * What README.md tells is so: its example is called line by line, with the answers that it tells
 * behind "//" (a number, or throws X), and its table names each call. It is run in the project's folder.
 */
public final class ReadmeTests {
    private static final Pattern CALL =
            Pattern.compile("office\\.(\\w+)\\(([-0-9, ]*)\\);(?: +// (-?[0-9]+|throws \\w+)?.*)?");
    private static final Check CHECK = new Check("ReadmeTests");

    public static void main(String[] args) throws IOException, IllegalAccessException {
        String text = Files.readString(Path.of("README.md"));
        theExample(text);
        theTable(text);
        CHECK.end();
    }

    private static void theExample(String text) throws IllegalAccessException {
        FieldRows office = new FieldRows();
        int told = 0;
        for (String line : text.split("\n")) {
            Matcher call = CALL.matcher(line);
            if (call.matches()) {
                String got = answer(office, call.group(1), call.group(2));
                if (call.group(3) != null) {
                    CHECK.same("README.md: " + line, call.group(3), got);
                    told++;
                } else {
                    CHECK.same("README.md: " + line + " throws", "false", "" + got.startsWith("throws"));
                }
            } else {
                CHECK.same("README.md: a line that is not understood: " + line, "false", "" + line.startsWith("office."));
            }
        }
        CHECK.same("README.md: answers are told", "true", "" + (told > 5));
    }

    private static String answer(FieldRows office, String name, String arguments) throws IllegalAccessException {
        String[] texts = arguments.isBlank() ? new String[0] : arguments.split(", *");
        Object[] numbers = new Object[texts.length];
        for (int k = 0; k < texts.length; k++) {
            numbers[k] = Integer.valueOf(texts[k].trim());
        }
        try {
            return "" + named(name).invoke(office, numbers);
        } catch (InvocationTargetException e) {
            return "throws " + e.getCause().getClass().getSimpleName();
        }
    }

    private static Method named(String name) {
        for (Method method : FieldRows.class.getDeclaredMethods()) {
            if (method.getName().equals(name)) {
                return method;
            }
        }
        throw new IllegalArgumentException("README.md calls what is not there: " + name);
    }

    private static void theTable(String text) {
        for (Method method : FieldRows.class.getMethods()) {
            if (method.getDeclaringClass() == FieldRows.class) {
                boolean there = Pattern.compile("(?m)^\\| .*`" + method.getName() + "\\(").matcher(text).find();
                CHECK.same("README.md: the table has " + method.getName(), "true", "" + there);
            }
        }
    }
}
