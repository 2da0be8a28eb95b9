import java.io.IOException;
import java.lang.reflect.Method;
import java.nio.file.Files;
import java.nio.file.Path;
import java.util.regex.Matcher;
import java.util.regex.Pattern;

/** The calls that README.md shows answer what it says behind them. */
public final class ReadmeTest {
    private static final Pattern CALL = Pattern.compile("x\\.(\\w+)\\(((?:'.'|[^')])*)\\);");
    private static final Pattern ANSWER = Pattern.compile("; +// (-?\\d+)");

    private ReadmeTest() {
    }

    public static void main(String[] arguments) throws IOException, ReflectiveOperationException {
        Check check = new Check("ReadmeTest");
        TextRows x = new TextRows();
        for (String line : Files.readString(Path.of("README.md")).lines().toList()) {
            if (line.startsWith("x.")) {
                int got = lastAnswer(x, line);
                Matcher answer = ANSWER.matcher(line);
                check.holds(line + ": an answer stands there", answer.find());
                check.due(line, got, Integer.parseInt(answer.group(1)));
            }
        }
        check.finish();
    }

    private static int lastAnswer(TextRows x, String line) throws ReflectiveOperationException {
        int answer = 0;
        Matcher call = CALL.matcher(line);
        while (call.find()) {
            String[] given = call.group(2).isEmpty() ? new String[0] : call.group(2).split(", ");
            Method method = methodOf(call.group(1));
            Object[] arguments = new Object[given.length];
            for (int i = 0; i < given.length; i++) {
                arguments[i] = valueOf(given[i]);
            }
            answer = (Integer) method.invoke(x, arguments);
        }
        return answer;
    }

    private static Method methodOf(String name) throws NoSuchMethodException {
        for (Method method : Both.face()) {
            if (method.getName().equals(name)) {
                return method;
            }
        }
        throw new NoSuchMethodException(name);
    }

    private static Object valueOf(String given) {
        if (given.equals("true") || given.equals("false")) {
            return given.equals("true");
        }
        return given.startsWith("'") ? (int) given.charAt(1) : (Object) Integer.decode(given);
    }
}
