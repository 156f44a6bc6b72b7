import java.io.IOException;
import java.lang.reflect.Method;
import java.nio.file.Files;
import java.nio.file.Path;
import java.util.Arrays;
import java.util.regex.Matcher;
import java.util.regex.Pattern;

/** Each call of the example in README.md answers the number that stands behind it. */
public final class ReadmeTest {
    private static final Pattern NEW_ROW = Pattern.compile("RowLegaliser row = new RowLegaliser\\((\\d+)\\);.*");
    private static final Pattern CALL = Pattern.compile("row\\.(\\w+)\\(([-\\d, ]*)\\);\\s*// (-?\\d+)(:.*)?");

    private static int calls = 0;
    private static int wrong = 0;

    public static void main(String[] args) throws IOException, ReflectiveOperationException {
        RowLegaliser row = null;
        for (String line : Files.readAllLines(Path.of("README.md"))) {
            Matcher made = NEW_ROW.matcher(line);
            if (made.matches()) {
                row = new RowLegaliser(Integer.parseInt(made.group(1)));
            } else if (line.startsWith("row.")) {
                compare(row, line);
            }
        }
        if (calls == 0) {
            wrong++;
            System.out.println("README.md has no example");
        }
        System.out.println(wrong == 0 ? "all " + calls + " answers are as due" : wrong + " answers are not as due");
        if (wrong != 0) {
            System.exit(1);
        }
    }

    private static void compare(RowLegaliser row, String line) throws ReflectiveOperationException {
        calls++;
        Matcher call = CALL.matcher(line);
        if (row == null || !call.matches()) {
            wrong++;
            System.out.println("not a call on a row with its answer: " + line);
            return;
        }
        Object[] arguments = numbers(call.group(2));
        Class<?>[] types = new Class<?>[arguments.length];
        Arrays.fill(types, int.class);
        Method method = RowLegaliser.class.getMethod(call.group(1), types);
        int got = (int) method.invoke(row, arguments);
        if (got != Integer.parseInt(call.group(3))) {
            wrong++;
            System.out.println("answered " + got + ": " + line);
        }
    }

    private static Object[] numbers(String list) {
        if (list.isBlank()) {
            return new Object[0];
        }
        return Arrays.stream(list.split(",")).map(word -> Integer.valueOf(word.trim())).toArray();
    }
}
