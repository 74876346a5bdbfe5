import java.io.IOException;
import java.lang.reflect.Method;
import java.nio.file.Files;
import java.nio.file.Path;
import java.util.regex.Matcher;
import java.util.regex.Pattern;

/** Runs the calls of README.md in their order: each answers what stands behind its two strokes. */
public final class ReadmeTest {
    private static final Pattern CALL = Pattern.compile("sea\\.(\\w+)\\(([^)]*)\\);\\s*// (-?\\d+|true|false):.*");

    public static void main(String[] args) throws IOException, ReflectiveOperationException {
        Check check = new Check();
        DriftSea sea = new DriftSea();
        int calls = 0;
        for (String line : Files.readAllLines(Path.of("README.md"))) {
            Matcher call = CALL.matcher(line);
            if (call.matches()) {
                calls++;
                String answer = answer(sea, call);
                check.due(line + " answered " + answer, answer.equals(call.group(3)), true);
            }
            check.due("is read: " + line, call.matches(), line.startsWith("sea."));
        }
        check.due("calls of README.md", calls > 30, true);
        check.close("ReadmeTest");
    }

    private static String answer(DriftSea sea, Matcher call) throws ReflectiveOperationException {
        for (Method method : DriftSea.class.getMethods()) {
            if (method.getName().equals(call.group(1))) {
                String[] told = call.group(2).isEmpty() ? new String[0] : call.group(2).split(", *");
                Object[] values = new Object[told.length];
                for (int i = 0; i < told.length; i++) {
                    long value = Long.decode(told[i]);
                    values[i] = method.getParameterTypes()[i] == long.class ? (Object) value : (Object) (int) value;
                }
                return method.invoke(sea, values).toString();
            }
        }
        return "no such call";
    }
}
