import java.lang.reflect.Method;
import java.util.List;
import java.util.Random;

/** Runs of random calls, each answer held against Plain's. */
public final class PlainRunsTest {
    private static final int CALLS = 512;
    private static final List<Method> FACE = Both.face();
    private static final String[] ALPHABETS = {"a", "ab", "ab", "abc", "abcd", "\u0000\u00ff", "a-z A",
        "\u007f\u0080", "abcdefghijklmnopqrstuvwxyz"};

    private final Random random;
    private final Both both;
    private final String alphabet;
    private int places;
    private int documents;

    private PlainRunsTest(Check check, int seed) {
        random = new Random(seed);
        both = new Both(check, "run " + seed);
        alphabet = ALPHABETS[random.nextInt(ALPHABETS.length)];
    }

    public static void main(String[] arguments) throws ReflectiveOperationException {
        Check check = new Check("PlainRunsTest");
        int from = arguments.length > 0 ? Integer.parseInt(arguments[0]) : 0;
        int runs = arguments.length > 1 ? Integer.parseInt(arguments[1]) : 700;
        for (int seed = from; seed < from + runs && !check.hasFailed(); seed++) {
            new PlainRunsTest(check, seed).run();
        }
        for (int seed = from; seed < from + runs / 20 && !check.hasFailed(); seed++) {
            new PlainRunsTest(check, seed).sweep();
        }
        check.finish();
    }

    private void run() throws ReflectiveOperationException {
        if (random.nextInt(4) > 0) {
            writeBook(random.nextInt(7), random.nextInt(40) == 0 ? 250 : 1 + random.nextInt(60));
        }
        while (both.used() < CALLS) {
            int kind = random.nextInt(300);
            if (kind == 0) {
                both.call("clear");
                writeBook(random.nextInt(5), 40);
            } else if (kind == 1) {
                both.call("cut");
                build();
            } else if (kind < 5) {
                ask();
            } else {
                Method method = FACE.get(random.nextInt(FACE.size()));
                // a cleared book, or one that is built anew at each turn, would leave little to be seen
                if (!method.getName().equals("clear") && !(method.getName().equals("build") && kind < 270)) {
                    both.call(method, argumentsFor(method));
                }
            }
        }
    }

    /** Every call with every argument that can be, on a small book. */
    private void sweep() throws ReflectiveOperationException {
        writeBook(1 + random.nextInt(4), 30);
        for (int x = -2; x <= places + 1; x++) {
            for (String name : List.of("place", "row", "shared", "before", "step", "byteAt", "unique", "square",
                    "mirror", "maximal", "kth", "order", "absent", "different", "oftenest", "repeated", "common")) {
                both.call(name, name.equals("order") ? new Object[0] : new Object[] {x});
            }
            for (int d = -1; d <= documents; d++) {
                both.call("match", x, d);
                both.call("word", d, x);
                both.call("unwound", d, x);
                for (int what = -1; what <= 3; what++) {
                    both.call("factor", d, x, what);
                }
            }
        }
        int all = both.call("different", 0);
        for (int k = 0; k < all; k += 3) {
            both.call("kth", k);
            both.call("order");
            for (int what = -1; what <= 4; what++) {
                both.call("pattern", what);
            }
            for (int j = -2; j <= 5; j++) {
                both.call("sorted", j);
                both.call("at", j);
                both.call("more", true, j);
                both.call("more", false, j);
                both.call("ranked", j);
                both.call("times", j);
                both.call("near", j);
                both.call("nearOf", k, j);
            }
        }
        both.call("count", 3);
    }

    private void writeBook(int count, int longest) throws ReflectiveOperationException {
        String[] texts = new String[count];
        for (int d = 0; d < count; d++) {
            texts[d] = d > 0 && random.nextInt(6) == 0 ? texts[random.nextInt(d)] : text(random.nextInt(longest + 1));
        }
        both.write(texts);
        build();
    }

    private void build() throws ReflectiveOperationException {
        both.call("build", random.nextInt(3) == 0 ? 1 + random.nextInt(64) : 1 + random.nextInt(8));
        places = Math.max(both.plain.count(0), 0);
        documents = Math.max(both.plain.count(1), 0);
    }

    /** Letters, or a text that repeats itself. */
    private String text(int length) {
        StringBuilder text = new StringBuilder();
        int period = 1 + random.nextInt(9);
        boolean periodic = random.nextInt(3) == 0;
        for (int i = 0; i < length; i++) {
            boolean again = periodic && i >= period && random.nextInt(25) > 0;
            text.append(again ? text.charAt(i - period) : alphabet.charAt(random.nextInt(alphabet.length())));
        }
        return text.toString();
    }

    private void ask() throws ReflectiveOperationException {
        String signs = "ab.*+?|()[]{}1,2^-\\";
        StringBuilder query = new StringBuilder();
        int length = random.nextInt(8);
        for (int i = 0; i < length; i++) {
            query.append(random.nextBoolean() ? alphabet.charAt(random.nextInt(alphabet.length()))
                    : signs.charAt(random.nextInt(signs.length())));
        }
        both.answer(query.toString());
    }

    private Object[] argumentsFor(Method method) {
        Object[] arguments = new Object[method.getParameterCount()];
        for (int i = 0; i < arguments.length; i++) {
            if (method.getParameterTypes()[i] == boolean.class) {
                arguments[i] = random.nextBoolean();
            } else {
                arguments[i] = method.getName().equals("feed") ? random.nextInt() : number(method.getName(), i);
            }
        }
        return arguments;
    }

    private int number(String name, int which) {
        int kind = random.nextInt(100);
        if (kind < 2) {
            return random.nextInt();
        }
        if (kind < 4) {
            return new int[] {Integer.MIN_VALUE, Integer.MAX_VALUE, -1, -2, 255, 256, 3000, 2999}[random.nextInt(8)];
        }
        boolean takesByte = which == 0 && List.of("grow", "front", "rank", "select").contains(name);
        if (takesByte && kind < 90) {
            return alphabet.charAt(random.nextInt(alphabet.length()));
        }
        if (name.equals("ask")) {
            return 30 + random.nextInt(99);
        }
        boolean takesDocument = List.of("factor", "word", "unwound", "times", "document").contains(name) && which == 0
                || name.equals("match") && which == 1;
        if (takesDocument && kind < 95) {
            return random.nextInt(documents + 1);
        }
        if (kind < 50) {
            return random.nextInt(8) - 2;
        }
        return random.nextInt(places + 3) - 1;
    }
}
