import java.io.IOException;
import java.lang.reflect.InvocationTargetException;
import java.lang.reflect.Method;
import java.nio.file.Files;
import java.nio.file.Path;
import java.util.regex.Matcher;
import java.util.regex.Pattern;

/** The example of README.md: each call answers what is written behind it. Run from the project's folder. */
public final class ReadmeTest {
    private static final Check CHECK = new Check("ReadmeTest");
    private static final Pattern TOLD = Pattern.compile("String told = \"([^\"]*)\";");
    private static final Pattern CALL = Pattern.compile("cuts\\.(\\w+)\\((.*)\\); +// (-?\\d+): .*");

    public static void main(String[] args) throws IOException, ReflectiveOperationException {
        String told = null;
        SquareCuts cuts = new SquareCuts();
        int calls = 0;
        for (String line : Files.readAllLines(Path.of("README.md"))) {
            Matcher text = TOLD.matcher(line);
            Matcher call = CALL.matcher(line);
            if (text.matches()) {
                told = text.group(1);
                Check.put(cuts, told);
            } else if (told != null && call.matches()) {
                String given = call.group(2).replace("told.length()", String.valueOf(told.length()));
                CHECK.due(line, answer(cuts, call.group(1), given), Long.parseLong(call.group(3)));
                calls++;
            }
        }
        CHECK.due("README.md has an example", calls > 0, true);
        CHECK.end();
    }

    private static long answer(SquareCuts cuts, String name, String given)
        throws IllegalAccessException, InvocationTargetException {
        String[] written = given.isEmpty() ? new String[0] : given.split(", ");
        for (Method method : SquareCuts.class.getMethods()) {
            if (method.getName().equals(name)) {
                Object[] values = new Object[written.length];
                for (int i = 0; i < values.length; i++) {
                    boolean isTruth = method.getParameterTypes()[i] == boolean.class;
                    values[i] = isTruth ? (Object) Boolean.valueOf(written[i]) : Integer.valueOf(written[i]);
                }
                return ((Number) method.invoke(cuts, values)).longValue();
            }
        }
        throw new IllegalStateException("README.md has a call that is not there: " + name);
    }
}
