import java.io.IOException;
import java.lang.reflect.Method;
import java.nio.file.Files;
import java.nio.file.Path;
import java.util.regex.Matcher;
import java.util.regex.Pattern;

/** Does the calls that README.md shows, in its order on one object, and compares what stands behind them. Run from the project's root. */
public final class ReadmeTest {
    private static final Pattern SAYS = Pattern.compile("say\\(x, \"([^\"]*)\"\\);");
    private static final Pattern CALLS = Pattern.compile("x\\.(\\w+)\\(([-0-9, ]*)\\);\\s*// (-?\\d+).*");

    public static void main(String[] args) throws IOException, ReflectiveOperationException {
        Check check = new Check();
        FelledHasLost x = new FelledHasLost();
        int calls = 0;
        for (String line : Files.readAllLines(Path.of("README.md"))) {
            Matcher says = SAYS.matcher(line);
            Matcher call = CALLS.matcher(line);
            if (says.matches()) {
                Check.say(x, says.group(1));
            } else if (call.matches()) {
                check.due(line, answer(x, call.group(1), call.group(2)), Long.parseLong(call.group(3)));
                calls++;
            } else if (line.startsWith("x.")) {
                // A call that this test can't read would go unnoticed.
                check.due("this line can be read: " + line, false, true);
            }
        }
        check.due("calls were found", calls > 20, true);
        check.finish();
    }

    private static long answer(FelledHasLost x, String name, String arguments) throws ReflectiveOperationException {
        String[] told = arguments.isBlank() ? new String[0] : arguments.split(", *");
        Class<?>[] types = new Class<?>[told.length];
        Object[] values = new Object[told.length];
        for (int i = 0; i < told.length; i++) {
            types[i] = int.class;
            values[i] = Integer.parseInt(told[i].trim());
        }
        Method method = FelledHasLost.class.getMethod(name, types);
        return ((Number) method.invoke(x, values)).longValue();
    }
}
