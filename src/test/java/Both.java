import java.lang.reflect.Method;
import java.util.ArrayList;
import java.util.Arrays;
import java.util.Comparator;
import java.util.List;

/** A TextRows and a Plain that get the same calls, and must give the same answers. */
final class Both {
    final TextRows rows = new TextRows();
    final Plain plain = new Plain();
    private final Check check;
    private final String run;
    private final List<String> calls = new ArrayList<>();

    Both(Check check, String run) {
        this.check = check;
        this.run = run;
    }

    /** All calls of the face, in the same order each time. */
    static List<Method> face() {
        List<Method> methods = new ArrayList<>();
        for (Method method : TextRows.class.getDeclaredMethods()) {
            if (java.lang.reflect.Modifier.isPublic(method.getModifiers())) {
                methods.add(method);
            }
        }
        methods.sort(Comparator.comparing(Method::getName));
        return methods;
    }

    int call(Method method, Object... arguments) throws ReflectiveOperationException {
        Method same = Plain.class.getDeclaredMethod(method.getName(), method.getParameterTypes());
        int got = (Integer) method.invoke(rows, arguments);
        int want = (Integer) same.invoke(plain, arguments);
        String call = method.getName() + Arrays.toString(arguments);
        calls.add(call + " = " + got);
        check.due(run + ", call " + calls.size() + ", " + call, got, want);
        if (got != want) {
            System.out.println("  behind " + calls.subList(Math.max(0, calls.size() - 40), calls.size()));
        }
        return got;
    }

    int call(String name, Object... arguments) throws ReflectiveOperationException {
        for (Method method : face()) {
            if (method.getName().equals(name)) {
                return call(method, arguments);
            }
        }
        throw new NoSuchMethodException(name);
    }

    void feed(String text) throws ReflectiveOperationException {
        for (int from = 0; from < text.length(); from += 20) {
            String twenty = text.substring(from, Math.min(from + 20, text.length()));
            call("feed", Books.four(twenty, 0), Books.four(twenty, 4), Books.four(twenty, 8), Books.four(twenty, 12),
                    Books.four(twenty, 16));
            if (twenty.length() < 20) {
                call("end", twenty.length());
            }
        }
    }

    void write(String... documents) throws ReflectiveOperationException {
        for (String document : documents) {
            feed(document);
            call("cut");
        }
    }

    int answer(String query) throws ReflectiveOperationException {
        for (int i = 0; i < query.length(); i++) {
            call("ask", (int) query.charAt(i));
        }
        return call("answer");
    }

    int used() {
        return calls.size();
    }
}
