import java.io.IOException;
import java.lang.reflect.Method;
import java.nio.file.Files;
import java.nio.file.Path;
import java.util.regex.Matcher;
import java.util.regex.Pattern;

/** README.md says how to use the class: its calls, one behind the other, with the answers it tells. */
public final class ReadmeTest {
    private static final Due due = new Due("ReadmeTest");
    private static final Pattern SIGNS = Pattern.compile("String signs = \"([^\"]*)\";");
    private static final Pattern CALL = Pattern.compile("x\\.(\\w+)\\(([-0-9, ]*)\\);\\s*// (-?\\d+)\\b.*");
    /** The lines that write the signs into a TEXT, which Due does here. */
    private static final String WRITING = "SewnAhead x = new SewnAhead();|x.text(0, signs.length());"
            + "|for (int i = 0; i < signs.length(); i++) {|x.put(0, i, signs.charAt(i));|}";
    private static final int LEAST_CALLS = 40;

    public static void main(String[] args) throws ReflectiveOperationException, IOException {
        String readme = Files.readString(Path.of("README.md"));
        int from = readme.indexOf("```java\n");
        int to = readme.indexOf("```", from + 3);
        due.holds("README.md has Java in it", from >= 0 && to > from);
        run(readme.substring(from + "```java\n".length(), to));
        due.end();
    }

    private static void run(String code) throws ReflectiveOperationException {
        SewnAhead x = new SewnAhead();
        int calls = 0;
        for (String line : code.lines().map(String::strip).toList()) {
            Matcher signs = SIGNS.matcher(line);
            Matcher call = CALL.matcher(line);
            if (signs.matches()) {
                Due.write(x, 0, signs.group(1));
            } else if (call.matches()) {
                due.is(line, answer(x, call.group(1), call.group(2)), Long.parseLong(call.group(3)));
                calls++;
            } else {
                due.holds("known: " + line, line.isEmpty() || line.startsWith("//")
                        || java.util.List.of(WRITING.split("\\|")).contains(line));
            }
        }
        due.holds("calls were found, and 512 at most", calls >= LEAST_CALLS && calls <= 512);
    }

    private static long answer(SewnAhead x, String name, String numbers) throws ReflectiveOperationException {
        String[] told = numbers.isBlank() ? new String[0] : numbers.split(", *");
        Class<?>[] types = new Class<?>[told.length];
        Object[] values = new Object[told.length];
        for (int i = 0; i < told.length; i++) {
            types[i] = int.class;
            values[i] = Integer.valueOf(told[i].strip());
        }
        Method method = SewnAhead.class.getMethod(name, types);
        return ((Number) method.invoke(x, values)).longValue();
    }
}
