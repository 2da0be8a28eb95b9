import java.util.ArrayList;
import java.util.List;
import java.util.TreeSet;
import java.util.regex.Matcher;
import java.util.regex.Pattern;

/** What a query means, as a tree that tells at which ends a match may come; and where a wrong query is wrong. */
final class PlainQuery {
    private static final int ENDLESS = Integer.MAX_VALUE;
    private static final Pattern NUMBERS = Pattern.compile("\\{([0-9]{1,2})(,([0-9]{1,2})?)?\\}");

    private enum Kind { BYTES, ROW, SUM, ITEM }

    private final Kind kind;
    private final List<PlainQuery> parts = new ArrayList<>();
    private final boolean[] bytes = new boolean[256];
    private int least = 1;
    private int most = 1;

    private PlainQuery(Kind kind) {
        this.kind = kind;
    }

    /** - 1 for a right query. Goes from sign to sign, with nothing but the number of open brackets in mind. */
    static int firstWrong(String query) {
        int open = 0;
        boolean mayRepeat = false;
        int i = 0;
        while (i < query.length()) {
            char c = query.charAt(i);
            int next = i + 1;
            if (c == '\\') {
                next = i + 2;
                if (next > query.length()) {
                    return query.length();
                }
                mayRepeat = true;
            } else if (c == '[') {
                next = behindRanges(query, i);
                if (next < 0) {
                    return -1 - next;
                }
                mayRepeat = true;
            } else if (c == '(') {
                open++;
                if (open > 20) {
                    return i;
                }
                mayRepeat = false;
            } else if (c == ')') {
                open--;
                if (open < 0) {
                    return i;
                }
                mayRepeat = true;
            } else if (c == '|') {
                mayRepeat = false;
            } else if ("*+?{".indexOf(c) >= 0) {
                if (!mayRepeat) {
                    return i;
                }
                if (c == '{') {
                    next = behindNumbers(query, i);
                    if (next < 0) {
                        return -1 - next;
                    }
                }
                mayRepeat = false;
            } else if (c == ']' || c == '}') {
                return i;
            } else {
                mayRepeat = true;
            }
            i = next;
        }
        return open > 0 ? query.length() : -1;
    }

    /** The place behind, or - 1 less the wrong place. */
    private static int behindNumbers(String query, int brace) {
        int i = brace + 1;
        int[] numbers = new int[2];
        for (int which = 0; which < 2; which++) {
            int start = i;
            while (i < query.length() && i < start + 2 && Character.isDigit(query.charAt(i))) {
                numbers[which] = numbers[which] * 10 + query.charAt(i) - '0';
                i++;
            }
            if (i == start && !(which == 1 && query.startsWith("}", i))) {
                return -1 - i;
            }
            if (which == 1 && i > start && numbers[1] < numbers[0]) {
                return -1 - start;
            }
            if (query.startsWith("}", i)) {
                return i + 1;
            }
            if (which == 1 || !query.startsWith(",", i)) {
                return -1 - i;
            }
            i++;
        }
        throw new IllegalStateException();
    }

    private static int behindRanges(String query, int bracket) {
        int i = bracket + 1;
        if (query.startsWith("^", i)) {
            i++;
        }
        boolean any = false;
        while (true) {
            if (any && query.startsWith("]", i)) {
                return i + 1;
            }
            int behind = behindByte(query, i);
            if (behind < 0) {
                return behind;
            }
            any = true;
            if (query.startsWith("-", behind)) {
                int second = behind + 1;
                int end = behindByte(query, second);
                if (end < 0) {
                    return end;
                }
                if (query.charAt(end - 1) < query.charAt(behind - 1)) {
                    return -1 - second;
                }
                behind = end;
            }
            i = behind;
        }
    }

    private static int behindByte(String query, int i) {
        if (i >= query.length() || "[]-".indexOf(query.charAt(i)) >= 0) {
            return -1 - i;
        }
        if (query.charAt(i) != '\\') {
            return i + 1;
        }
        return i + 1 >= query.length() ? -1 - query.length() : i + 2;
    }

    /** Of a query that is right. */
    static PlainQuery of(String query) {
        int[] at = {0};
        return sum(query, at);
    }

    private static PlainQuery sum(String query, int[] at) {
        PlainQuery sum = new PlainQuery(Kind.SUM);
        sum.parts.add(row(query, at));
        while (query.startsWith("|", at[0])) {
            at[0]++;
            sum.parts.add(row(query, at));
        }
        return sum;
    }

    private static PlainQuery row(String query, int[] at) {
        PlainQuery row = new PlainQuery(Kind.ROW);
        while (at[0] < query.length() && query.charAt(at[0]) != '|' && query.charAt(at[0]) != ')') {
            PlainQuery item = new PlainQuery(Kind.ITEM);
            item.parts.add(atom(query, at));
            item.repeat(query, at);
            row.parts.add(item);
        }
        return row;
    }

    private void repeat(String query, int[] at) {
        Matcher numbers = NUMBERS.matcher(query).region(at[0], query.length());
        if (numbers.lookingAt()) {
            least = Integer.parseInt(numbers.group(1));
            most = numbers.group(2) == null ? least
                    : numbers.group(3) == null ? ENDLESS : Integer.parseInt(numbers.group(3));
            at[0] = numbers.end();
        } else if (at[0] < query.length() && "*+?".indexOf(query.charAt(at[0])) >= 0) {
            least = query.charAt(at[0]) == '+' ? 1 : 0;
            most = query.charAt(at[0]) == '?' ? 1 : ENDLESS;
            at[0]++;
        }
    }

    private static PlainQuery atom(String query, int[] at) {
        char c = query.charAt(at[0]);
        at[0]++;
        if (c == '(') {
            PlainQuery sum = sum(query, at);
            at[0]++;
            return sum;
        }
        PlainQuery atom = new PlainQuery(Kind.BYTES);
        if (c == '.') {
            java.util.Arrays.fill(atom.bytes, true);
        } else if (c == '\\') {
            atom.bytes[query.charAt(at[0])] = true;
            at[0]++;
        } else if (c == '[') {
            int end = behindRanges(query, at[0] - 1);
            atom.addRanges(query.substring(at[0], end - 1));
            at[0] = end;
        } else {
            atom.bytes[c] = true;
        }
        return atom;
    }

    private void addRanges(String ranges) {
        boolean others = ranges.startsWith("^");
        int i = others ? 1 : 0;
        while (i < ranges.length()) {
            int behind = behindByte(ranges, i);
            char from = ranges.charAt(behind - 1);
            char to = from;
            if (ranges.startsWith("-", behind)) {
                behind = behindByte(ranges, behind + 1);
                to = ranges.charAt(behind - 1);
            }
            for (int c = from; c <= to; c++) {
                bytes[c] = true;
            }
            i = behind;
        }
        for (int c = 0; c < 256 && others; c++) {
            bytes[c] = !bytes[c];
        }
    }

    double size() {
        double sum = 0;
        for (PlainQuery part : parts) {
            sum += part.size();
        }
        if (kind == Kind.BYTES) {
            return 1;
        }
        return kind == Kind.ITEM ? sum * (most == ENDLESS ? Math.max(least, 1) : most) : sum;
    }

    /** All ends that a match from a place on may have. */
    TreeSet<Integer> ends(String text, int from) {
        TreeSet<Integer> found = new TreeSet<>();
        switch (kind) {
            case BYTES:
                if (from < text.length() && bytes[text.charAt(from)]) {
                    found.add(from + 1);
                }
                break;
            case SUM:
                for (PlainQuery part : parts) {
                    found.addAll(part.ends(text, from));
                }
                break;
            case ROW:
                found.add(from);
                for (PlainQuery part : parts) {
                    found = part.endsOfAll(text, found);
                }
                break;
            default:
                TreeSet<Integer> now = new TreeSet<>(List.of(from));
                boolean same = false;
                for (int i = 0; i < least && !same; i++) {
                    TreeSet<Integer> then = parts.get(0).endsOfAll(text, now);
                    same = then.equals(now);
                    now = then;
                }
                found.addAll(now);
                boolean more = true;
                for (int i = least; i < most && more; i++) {
                    now = parts.get(0).endsOfAll(text, now);
                    more = found.addAll(now);
                }
                break;
        }
        return found;
    }

    private TreeSet<Integer> endsOfAll(String text, TreeSet<Integer> froms) {
        TreeSet<Integer> found = new TreeSet<>();
        for (int from : froms) {
            found.addAll(ends(text, from));
        }
        return found;
    }
}
