import java.util.Random;

/** Queries, right and wrong ones, each answer held against Plain's. */
public final class QueriesTest {
    private static final String[][] BOOKS = {
        {"abcaabbccabcabc", "", "aaaaaaaaaaaa", "bcab"},
        {"ab-ba[]^\\{}()", "*+?|.,019", " ~~ a", "\u0000\u00ff\u0080a"},
        {"abababababababababab"},
        {""},
    };

    private final Random random;
    private final Both both;
    private final StringBuilder query = new StringBuilder();

    private QueriesTest(Check check, int seed) throws ReflectiveOperationException {
        random = new Random(seed);
        both = new Both(check, "queries " + seed);
        both.write(BOOKS[seed % BOOKS.length]);
        both.call("build", 1 + seed % 64);
    }

    public static void main(String[] arguments) throws ReflectiveOperationException {
        Check check = new Check("QueriesTest");
        int from = arguments.length > 0 ? Integer.parseInt(arguments[0]) : 0;
        int runs = arguments.length > 1 ? Integer.parseInt(arguments[1]) : 1000;
        for (int seed = from; seed < from + runs && !check.hasFailed(); seed++) {
            QueriesTest test = new QueriesTest(check, seed);
            for (int i = 0; i < 12; i++) {
                test.askOne(i);
            }
        }
        check.finish();
    }

    private void askOne(int i) throws ReflectiveOperationException {
        query.setLength(0);
        if (i == 0) {
            signs(random.nextInt(12));
        } else {
            sum(random.nextInt(4) == 0 ? 6 : 2 + random.nextInt(2));
        }
        if (i % 3 == 0) {
            spoil();
        }
        if (query.length() > 200) {
            query.setLength(200);
        }
        int found = both.answer(query.toString());
        for (int k = -1; k <= Math.max(found, 3); k++) {
            for (int what = 0; what < 3; what++) {
                both.call("answered", k, what);
            }
        }
        both.call("answered", 0, 3);
        both.call("answered", 0, -1);
        both.call("count", 10);
    }

    private void signs(int length) {
        String all = "aab(()|)[[^-]]\\{1}{2,}*+?.,9";
        for (int i = 0; i < length; i++) {
            query.append(all.charAt(random.nextInt(all.length())));
        }
    }

    private void spoil() {
        for (int times = random.nextInt(3); times >= 0 && query.length() > 0; times--) {
            int at = random.nextInt(query.length());
            switch (random.nextInt(4)) {
                case 0:
                    query.deleteCharAt(at);
                    break;
                case 1:
                    query.setCharAt(at, (char) (32 + random.nextInt(95)));
                    break;
                case 2:
                    query.insert(at, "()[]{}|*+?-\\^,.19".charAt(random.nextInt(17)));
                    break;
                default:
                    query.setLength(at);
                    break;
            }
        }
    }

    private void sum(int depth) {
        row(depth);
        while (random.nextInt(4) == 0) {
            query.append('|');
            row(depth);
        }
    }

    private void row(int depth) {
        int items = random.nextInt(4);
        for (int i = 0; i < items; i++) {
            atom(depth);
            repeat();
        }
    }

    private void atom(int depth) {
        int kind = random.nextInt(12);
        if (kind < 4 && depth > 0) {
            query.append('(');
            sum(depth - 1);
            query.append(')');
        } else if (kind < 8) {
            query.append("abc".charAt(random.nextInt(3)));
        } else if (kind == 8) {
            query.append('.');
        } else if (kind == 9) {
            query.append('\\').append((char) (32 + random.nextInt(95)));
        } else if (kind == 10) {
            ranges();
        } else {
            query.append("-^,0 ~!\"".charAt(random.nextInt(8)));
        }
    }

    private void ranges() {
        query.append(random.nextInt(3) == 0 ? "[^" : "[");
        int count = 1 + random.nextInt(3);
        for (int i = 0; i < count; i++) {
            if (random.nextBoolean()) {
                rangeByte((char) (32 + random.nextInt(95)));
            } else {
                int low = 32 + random.nextInt(95);
                rangeByte((char) low);
                query.append('-');
                rangeByte((char) (low + random.nextInt(127 - low)));
            }
        }
        query.append(']');
    }

    private void rangeByte(char c) {
        boolean must = "[]\\-".indexOf(c) >= 0 || c == '^' && query.charAt(query.length() - 1) == '[';
        if (must || random.nextInt(5) == 0) {
            query.append('\\');
        }
        query.append(c);
    }

    private void repeat() {
        int kind = random.nextInt(12);
        if (kind < 3) {
            query.append("*+?".charAt(kind));
        } else if (kind < 7) {
            int first = random.nextInt(8) == 0 ? random.nextInt(100) : random.nextInt(5);
            query.append('{').append(random.nextInt(9) == 0 ? "0" : "").append(first);
            if (kind > 3) {
                query.append(',');
            }
            if (kind > 5) {
                query.append(Math.min(99, first + random.nextInt(4)));
            }
            query.append('}');
        }
    }
}
