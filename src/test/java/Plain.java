import java.util.ArrayList;
import java.util.Arrays;
import java.util.Comparator;
import java.util.List;
import java.util.Map;
import java.util.TreeMap;
import java.util.TreeSet;

/**
 * The same face as TextRows, done by the document's words and without any index: all substrings with all their
 * places are written down, and everything is looked up there. For small books.
 */
final class Plain {
    static final int BAD = -1;
    static final int NONE = -2;

    private List<String> documents = new ArrayList<>();
    private StringBuilder hand = new StringBuilder();
    private final StringBuilder query = new StringBuilder();

    private boolean indexed;
    private List<String> texts = new ArrayList<>();
    private int n;
    private int rate;
    private int steps;
    private int[] owner;
    private int[] offset;
    private int[] first;
    private Integer[] byRow;
    private int[] rowOf;
    /** In Java's order of strings, which is that of the document for characters 0 to 255. */
    private TreeMap<String, List<Integer>> substrings;
    private List<String> sortedSubstrings;
    private List<String> maximals;

    private String pattern = "";
    private final List<Boolean> history = new ArrayList<>();
    private List<int[]> nearPlaces = new ArrayList<>();
    private List<int[]> answers;

    int feed(int a, int b, int c, int d, int e) {
        if (hand.length() + 20 > 3000) {
            return BAD;
        }
        for (int word : new int[] {a, b, c, d, e}) {
            for (int i = 3; i >= 0; i--) {
                hand.append((char) (word >> 8 * i & 0xff));
            }
        }
        return hand.length();
    }

    int end(int kept) {
        if (kept < 0 || kept > 20 || hand.length() < 20) {
            return BAD;
        }
        hand.setLength(hand.length() - 20 + kept);
        return hand.length();
    }

    int cut() {
        int places = hand.length() + 1;
        for (String document : documents) {
            places += document.length() + 1;
        }
        if (documents.size() == 40 || places > 3000) {
            return BAD;
        }
        documents.add(hand.toString());
        hand = new StringBuilder();
        return documents.size() - 1;
    }

    int clear() {
        int were = documents.size();
        documents = new ArrayList<>();
        hand = new StringBuilder();
        return were;
    }

    int build(int newRate) {
        if (documents.isEmpty() || newRate < 1 || newRate > 64) {
            return BAD;
        }
        indexed = true;
        texts = new ArrayList<>(documents);
        rate = newRate;
        steps = 0;
        pattern = "";
        history.clear();
        nearPlaces = new ArrayList<>();
        answers = null;
        numberPlaces();
        sortRows();
        writeSubstrings();
        return n;
    }

    private void numberPlaces() {
        n = texts.stream().mapToInt(text -> text.length() + 1).sum();
        owner = new int[n];
        offset = new int[n];
        first = new int[texts.size()];
        int p = 0;
        for (int d = 0; d < texts.size(); d++) {
            first[d] = p;
            for (int i = 0; i <= texts.get(d).length(); i++) {
                owner[p] = d;
                offset[p] = i;
                p++;
            }
        }
    }

    private void sortRows() {
        byRow = new Integer[n];
        Arrays.setAll(byRow, p -> p);
        Arrays.sort(byRow, (p, q) -> {
            String one = suffix(p);
            String other = suffix(q);
            int same = common(one, other);
            if (same < one.length() && same < other.length()) {
                return one.charAt(same) - other.charAt(same);
            }
            if (same < one.length() || same < other.length()) {
                return one.length() - other.length();
            }
            return owner[p] - owner[q];
        });
        rowOf = new int[n];
        for (int i = 0; i < n; i++) {
            rowOf[byRow[i]] = i;
        }
    }

    private void writeSubstrings() {
        substrings = new TreeMap<>();
        for (int p = 0; p < n; p++) {
            String suffix = suffix(p);
            for (int length = 1; length <= suffix.length(); length++) {
                substrings.computeIfAbsent(suffix.substring(0, length), key -> new ArrayList<>()).add(p);
            }
        }
        sortedSubstrings = new ArrayList<>(substrings.keySet());
        maximals = null;
    }

    private String suffix(int p) {
        return texts.get(owner[p]).substring(offset[p]);
    }

    private static int common(String one, String other) {
        int same = 0;
        while (same < one.length() && same < other.length() && one.charAt(same) == other.charAt(same)) {
            same++;
        }
        return same;
    }

    private boolean is(int placeOrRow) {
        return indexed && placeOrRow >= 0 && placeOrRow < n;
    }

    private boolean isDocument(int d) {
        return indexed && d >= 0 && d < texts.size();
    }

    private int told(int p) {
        steps += offset[p] % rate;
        return p;
    }

    int place(int i) {
        return is(i) ? told(byRow[i]) : BAD;
    }

    int row(int p) {
        return is(p) ? rowOf[p] : BAD;
    }

    int shared(int i) {
        if (!is(i)) {
            return BAD;
        }
        return i == 0 ? 0 : common(suffix(byRow[i - 1]), suffix(byRow[i]));
    }

    int before(int i) {
        return is(i) ? inFront(byRow[i]) : BAD;
    }

    private int inFront(int p) {
        return offset[p] == 0 ? NONE : texts.get(owner[p]).charAt(offset[p] - 1);
    }

    private int behind(int p, int length) {
        return suffix(p).length() == length ? NONE : suffix(p).charAt(length);
    }

    int step(int i) {
        if (!is(i)) {
            return BAD;
        }
        return offset[byRow[i]] == 0 ? NONE : rowOf[byRow[i] - 1];
    }

    int rank(int c, int i) {
        if (!indexed || c < 0 || c > 255 || i < 0 || i > n) {
            return BAD;
        }
        int found = 0;
        for (int r = 0; r < i; r++) {
            found += before(r) == c ? 1 : 0;
        }
        return found;
    }

    int select(int c, int k) {
        if (!indexed || c < 0 || c > 255) {
            return BAD;
        }
        List<Integer> rows = new ArrayList<>();
        for (int r = 0; r < n; r++) {
            if (before(r) == c) {
                rows.add(r);
            }
        }
        return k >= 0 && k < rows.size() ? rows.get(k) : BAD;
    }

    int byteAt(int p) {
        return is(p) ? behind(p, 0) : BAD;
    }

    int document(int x, int what) {
        if (what == 0 && isDocument(x)) {
            return first[x];
        }
        if (what == 1 && isDocument(x)) {
            return texts.get(x).length();
        }
        return what == 2 && is(x) ? owner[x] : BAD;
    }

    int alike(int p, int q) {
        return is(p) && is(q) ? common(suffix(p), suffix(q)) : BAD;
    }

    /** All places of a row of bytes, the least first. */
    private List<Integer> placesOf(String bytes) {
        if (!bytes.isEmpty()) {
            return substrings.getOrDefault(bytes, List.of());
        }
        List<Integer> all = new ArrayList<>();
        for (int p = 0; p < n; p++) {
            all.add(p);
        }
        return all;
    }

    private int whole(String bytes) {
        pattern = bytes;
        history.clear();
        return placesOf(bytes).size();
    }

    int begin() {
        return indexed ? whole("") : BAD;
    }

    int grow(int c) {
        return longer(c, true);
    }

    int front(int c) {
        return longer(c, false);
    }

    private int longer(int c, boolean behind) {
        if (!indexed || c < 0 || c > 255) {
            return BAD;
        }
        String then = behind ? pattern + (char) c : (char) c + pattern;
        if (!placesOf(then).isEmpty()) {
            pattern = then;
            history.add(behind);
        }
        return placesOf(then).size();
    }

    int back() {
        if (!indexed || history.isEmpty()) {
            return BAD;
        }
        boolean behind = history.remove(history.size() - 1);
        pattern = behind ? pattern.substring(0, pattern.length() - 1) : pattern.substring(1);
        return pattern.length();
    }

    private List<Integer> patternRows() {
        List<Integer> rows = new ArrayList<>();
        for (int p : placesOf(pattern)) {
            rows.add(rowOf[p]);
        }
        rows.sort(Comparator.naturalOrder());
        return rows;
    }

    int pattern(int what) {
        if (!indexed || what < 0 || what > 3) {
            return BAD;
        }
        List<Integer> rows = patternRows();
        return new int[] {pattern.length(), rows.get(0), rows.size(), history.size()}[what];
    }

    int patternByte(int i) {
        return indexed && i >= 0 && i < pattern.length() ? pattern.charAt(i) : BAD;
    }

    int at(int k) {
        if (!indexed || k < 0 || k >= patternRows().size()) {
            return BAD;
        }
        return told(byRow[patternRows().get(k)]);
    }

    int sorted(int k) {
        return indexed && k >= 0 && k < placesOf(pattern).size() ? placesOf(pattern).get(k) : BAD;
    }

    int more(boolean behind, int k) {
        if (!indexed) {
            return BAD;
        }
        TreeSet<Integer> bytes = new TreeSet<>();
        for (int p : placesOf(pattern)) {
            bytes.add(behind ? behind(p, pattern.length()) : inFront(p));
        }
        bytes.remove(NONE);
        return nth(new ArrayList<>(bytes), k);
    }

    private static int nth(List<Integer> list, int k) {
        if (k == -1) {
            return list.size();
        }
        return k >= 0 && k < list.size() ? list.get(k) : BAD;
    }

    int ranked(int k) {
        if (!indexed) {
            return BAD;
        }
        List<Integer> having = new ArrayList<>();
        for (int d = 0; d < texts.size(); d++) {
            if (times(d) > 0) {
                having.add(d);
            }
        }
        having.sort(Comparator.comparingInt((Integer d) -> -times(d)).thenComparingInt(d -> d));
        return nth(having, k);
    }

    int times(int d) {
        return isDocument(d) ? (int) placesOf(pattern).stream().filter(p -> owner[p] == d).count() : BAD;
    }

    int take(int p, int length) {
        return is(p) && length >= 1 && length <= suffix(p).length() ? whole(suffix(p).substring(0, length)) : BAD;
    }

    int near(int m) {
        if (!indexed || m < 0 || m > 3 || pattern.isEmpty() || pattern.length() > 40) {
            return BAD;
        }
        nearPlaces = new ArrayList<>();
        for (int p = 0; p < n; p++) {
            String suffix = suffix(p);
            if (suffix.length() >= pattern.length()) {
                int differ = 0;
                for (int i = 0; i < pattern.length(); i++) {
                    differ += suffix.charAt(i) != pattern.charAt(i) ? 1 : 0;
                }
                if (differ <= m) {
                    nearPlaces.add(new int[] {p, differ});
                }
            }
        }
        return nearPlaces.size();
    }

    int nearOf(int k, int what) {
        return k >= 0 && k < nearPlaces.size() && (what == 0 || what == 1) ? nearPlaces.get(k)[what] : BAD;
    }

    int ask(int c) {
        if (c < 32 || c > 126 || query.length() == 200) {
            return BAD;
        }
        query.append((char) c);
        return query.length();
    }

    int answer() {
        if (!indexed) {
            return BAD;
        }
        String asked = query.toString();
        query.setLength(0);
        int wrong = PlainQuery.firstWrong(asked);
        if (wrong >= 0) {
            return -2 - wrong;
        }
        PlainQuery meaning = PlainQuery.of(asked);
        if (meaning.size() > 120) {
            return -1000;
        }
        answers = new ArrayList<>();
        for (int p = 0; p < n; p++) {
            TreeSet<Integer> ends = meaning.ends(suffix(p), 0);
            ends.remove(0);
            if (!ends.isEmpty()) {
                answers.add(new int[] {p, ends.first(), ends.last()});
            }
        }
        return answers.size();
    }

    int answered(int k, int what) {
        return answers != null && k >= 0 && k < answers.size() && what >= 0 && what <= 2 ? answers.get(k)[what] : BAD;
    }

    int different(int length) {
        if (!indexed || length < 0) {
            return BAD;
        }
        return (int) sortedSubstrings.stream().filter(bytes -> length == 0 || bytes.length() == length).count();
    }

    int kth(int k) {
        if (!indexed || k < 0 || k >= sortedSubstrings.size()) {
            return BAD;
        }
        whole(sortedSubstrings.get(k));
        return pattern.length();
    }

    int order() {
        return indexed ? substrings.headMap(pattern).size() : BAD;
    }

    int repeated(int q) {
        return indexed && q >= 2 ? longest(q, false) : BAD;
    }

    int common(int q) {
        return indexed && q >= 1 ? longest(q, true) : BAD;
    }

    private int longest(int q, boolean inDocuments) {
        String best = "";
        for (Map.Entry<String, List<Integer>> one : substrings.entrySet()) {
            long have = inDocuments ? one.getValue().stream().map(p -> owner[p]).distinct().count()
                    : one.getValue().size();
            if (have >= q && one.getKey().length() > best.length()) {
                best = one.getKey();
            }
        }
        if (!best.isEmpty()) {
            whole(best);
        }
        return best.length();
    }

    int oftenest(int length) {
        if (!indexed || length < 1) {
            return BAD;
        }
        String best = "";
        int most = 0;
        for (Map.Entry<String, List<Integer>> one : substrings.entrySet()) {
            if (one.getKey().length() == length && one.getValue().size() > most) {
                best = one.getKey();
                most = one.getValue().size();
            }
        }
        if (most > 0) {
            whole(best);
        }
        return most;
    }

    int unique(int p) {
        if (!is(p) || suffix(p).isEmpty()) {
            return BAD;
        }
        for (int length = 1; length <= suffix(p).length(); length++) {
            if (placesOf(suffix(p).substring(0, length)).size() == 1) {
                return length;
            }
        }
        return 0;
    }

    int maximal(int k) {
        if (!indexed) {
            return BAD;
        }
        if (maximals == null) {
            maximals = new ArrayList<>();
            substrings.forEach((bytes, places) -> {
                if (places.size() >= 2 && !allAlike(places, bytes.length()) && !allAlike(places, -1)) {
                    maximals.add(bytes);
                }
            });
        }
        if (k == -1) {
            return maximals.size();
        }
        if (k < 0 || k >= maximals.size()) {
            return BAD;
        }
        whole(maximals.get(k));
        return pattern.length();
    }

    /** Whether one and the same byte stands behind so many bytes at all places, or in front (- 1). */
    private boolean allAlike(List<Integer> places, int length) {
        TreeSet<Integer> seen = new TreeSet<>();
        for (int p : places) {
            seen.add(length < 0 ? inFront(p) : behind(p, length));
        }
        return seen.size() == 1 && seen.first() != NONE;
    }

    int absent(int length) {
        if (!indexed || length < 2) {
            return BAD;
        }
        int found = 0;
        for (String head : sortedSubstrings) {
            if (head.length() == length - 1) {
                for (char c = 0; c < 256; c++) {
                    String row = head + c;
                    if (!substrings.containsKey(row) && substrings.containsKey(row.substring(1))) {
                        found++;
                    }
                }
            }
        }
        return found;
    }

    int factor(int d, int k, int what) {
        if (!isDocument(d) || k < -1 || (k >= 0 && (what < 0 || what > 2))) {
            return BAD;
        }
        int found = 0;
        int p = first[d];
        while (!suffix(p).isEmpty()) {
            int length = 0;
            int least = NONE;
            for (int q = p - 1; q >= 0; q--) {
                int same = common(suffix(p), suffix(q));
                if (same > 0 && same >= length) {
                    length = same;
                    least = q;
                }
            }
            if (found == k) {
                return new int[] {p, Math.max(length, 1), least}[what];
            }
            found++;
            p += Math.max(length, 1);
        }
        return k == -1 ? found : BAD;
    }

    /** Each word is the longest beginning of what is left that is less than all its own endings. */
    int word(int d, int k) {
        if (!isDocument(d)) {
            return BAD;
        }
        List<Integer> words = new ArrayList<>();
        String left = texts.get(d);
        String last = null;
        int p = first[d];
        while (!left.isEmpty()) {
            int length = left.length();
            while (!lessThanEndings(left.substring(0, length))) {
                length--;
            }
            String next = left.substring(0, length);
            if (last != null && last.compareTo(next) < 0) {
                throw new IllegalStateException("these are no falling words");
            }
            last = next;
            words.add(p);
            p += length;
            left = left.substring(length);
        }
        return nth(words, k);
    }

    private static boolean lessThanEndings(String word) {
        for (int i = 1; i < word.length(); i++) {
            if (word.compareTo(word.substring(i)) >= 0) {
                return false;
            }
        }
        return true;
    }

    int square(int p) {
        if (!is(p)) {
            return BAD;
        }
        String suffix = suffix(p);
        for (int half = 1; half + half <= suffix.length(); half++) {
            if (suffix.substring(0, half).equals(suffix.substring(half, half + half))) {
                return half;
            }
        }
        return 0;
    }

    int mirror(int p) {
        if (!is(p)) {
            return BAD;
        }
        for (int length = suffix(p).length(); length > 0; length--) {
            String bytes = suffix(p).substring(0, length);
            if (new StringBuilder(bytes).reverse().toString().equals(bytes)) {
                return length;
            }
        }
        return 0;
    }

    int match(int p, int d) {
        if (!is(p) || !isDocument(d)) {
            return BAD;
        }
        int longest = 0;
        for (int q = first[d]; q < n && owner[q] == d; q++) {
            if (q != p) {
                longest = Math.max(longest, common(suffix(p), suffix(q)));
            }
        }
        return longest;
    }

    int count(int what) {
        if (what >= 8 && what <= 10) {
            return new int[] {documents.size(), hand.length(), query.length()}[what - 8];
        }
        if (!indexed || what < 0 || what > 10) {
            return BAD;
        }
        int changes = 0;
        int sum = 0;
        int greatest = 0;
        for (int i = 0; i < n && what >= 4; i++) {
            changes += i == 0 || before(i) == NONE || before(i) != before(i - 1) ? 1 : 0;
            sum += shared(i);
            greatest = Math.max(greatest, shared(i));
        }
        int bytes = (int) String.join("", texts).chars().distinct().count();
        return new int[] {n, texts.size(), rate, steps, changes, sum, greatest, bytes}[what];
    }

    int unwound(int d, int i) {
        if (!isDocument(d) || i < 0) {
            return BAD;
        }
        int row = rowOf[first[d] + texts.get(d).length()];
        for (int k = 0; k < i && row != NONE; k++) {
            row = step(row);
        }
        return row == NONE || before(row) == NONE ? BAD : before(row);
    }
}
