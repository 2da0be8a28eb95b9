import java.util.ArrayList;
import java.util.Arrays;
import java.util.HashMap;
import java.util.HashSet;
import java.util.List;
import java.util.Map;
import java.util.Set;
import java.util.TreeSet;

/**
 * What is due for a book of any size, told from a table of all pairs of places: with how many bytes alike both go on.
 * A substring is told by a place where it stands and its length.
 */
final class Pairs {
    static final int NONE = -2;

    final String[] book;
    final int n;
    final int[] owner;
    final int[] first;
    /** A place's byte; NONE at an END. */
    final int[] text;
    /** How many bytes there are from a place on. */
    final int[] left;
    /** Of two places; of a place with itself all its bytes. */
    final short[][] same;
    /** The greatest length of a substring at a place that stands at a lesser place, too. */
    final int[] earlier;
    final Integer[] byRow;
    final int[] rowOf;

    Pairs(String... book) {
        this.book = book;
        first = new int[book.length + 1];
        for (int d = 0; d < book.length; d++) {
            first[d + 1] = first[d] + book[d].length() + 1;
        }
        n = first[book.length];
        owner = new int[n];
        text = new int[n];
        left = new int[n];
        same = new short[n][n];
        earlier = new int[n];
        byRow = new Integer[n];
        rowOf = new int[n];
        writePlaces();
        writePairs();
        writeRows();
    }

    private void writePlaces() {
        for (int d = 0; d < book.length; d++) {
            for (int i = 0; i <= book[d].length(); i++) {
                int p = first[d] + i;
                owner[p] = d;
                left[p] = book[d].length() - i;
                text[p] = left[p] == 0 ? NONE : book[d].charAt(i);
            }
        }
    }

    private void writePairs() {
        for (int p = n - 1; p >= 0; p--) {
            for (int q = n - 1; q >= 0; q--) {
                boolean alike = text[p] != NONE && text[p] == text[q];
                same[p][q] = (short) (alike ? 1 + same[p + 1][q + 1] : 0);
            }
        }
        for (int p = 0; p < n; p++) {
            for (int q = 0; q < p; q++) {
                earlier[p] = Math.max(earlier[p], same[p][q]);
            }
        }
    }

    private void writeRows() {
        Arrays.setAll(byRow, p -> p);
        Arrays.sort(byRow, this::compareSuffixes);
        for (int i = 0; i < n; i++) {
            rowOf[byRow[i]] = i;
        }
    }

    private int compareSuffixes(int p, int q) {
        int one = text[p + same[p][q]];
        int other = text[q + same[p][q]];
        return one == NONE && other == NONE ? owner[p] - owner[q] : one - other;
    }

    String suffix(int p) {
        return book[owner[p]].substring(p - first[owner[p]]);
    }

    int before(int p) {
        return p == first[owner[p]] ? NONE : text[p - 1];
    }

    boolean standsAt(int p, int length, int q) {
        return same[p][q] >= length;
    }

    List<Integer> placesOf(int p, int length) {
        List<Integer> places = new ArrayList<>();
        for (int q = 0; q < n; q++) {
            if (standsAt(p, length, q)) {
                places.add(q);
            }
        }
        return places;
    }

    int firstRowOf(int p, int length) {
        return placesOf(p, length).stream().mapToInt(q -> rowOf[q]).min().orElse(NONE);
    }

    List<Integer> bytesBeside(boolean behind, int p, int length) {
        TreeSet<Integer> bytes = new TreeSet<>();
        for (int q : placesOf(p, length)) {
            bytes.add(behind ? text[q + length] : before(q));
        }
        bytes.remove(NONE);
        return new ArrayList<>(bytes);
    }

    int timesIn(int d, int p, int length) {
        return (int) placesOf(p, length).stream().filter(q -> owner[q] == d).count();
    }

    List<Integer> documentsOf(int p, int length) {
        int[] times = new int[book.length];
        placesOf(p, length).forEach(q -> times[owner[q]]++);
        List<Integer> having = new ArrayList<>();
        for (int d = 0; d < book.length; d++) {
            if (times[d] > 0) {
                having.add(d);
            }
        }
        having.sort((d, e) -> times[d] != times[e] ? times[e] - times[d] : d - e);
        return having;
    }

    /** Each a place and how many bytes differ. */
    List<int[]> near(int p, int length, int most) {
        List<int[]> found = new ArrayList<>();
        for (int q = 0; q < n; q++) {
            int differ = 0;
            for (int i = 0; i < length && left[q] >= length; i++) {
                differ += text[p + i] != text[q + i] ? 1 : 0;
            }
            if (left[q] >= length && differ <= most) {
                found.add(new int[] {q, differ});
            }
        }
        return found;
    }

    /** Each substring is counted at its least place. */
    int different(int length) {
        int found = 0;
        for (int p = 0; p < n; p++) {
            found += length == 0 ? left[p] - earlier[p] : earlier[p] < length && length <= left[p] ? 1 : 0;
        }
        return found;
    }

    /** How many substrings are less than one, each looked at where it stands at its least place. */
    int order(int p, int length) {
        int found = 0;
        for (int q = 0; q < n; q++) {
            int alike = Math.min(same[p][q], length);
            boolean less = alike < length && text[q + alike] < text[p + alike];
            int greatest = less ? left[q] : Math.min(alike, length - 1);
            found += Math.max(greatest - earlier[q], 0);
        }
        return found;
    }

    private int compare(int p, int length, int q, int otherLength) {
        int alike = Math.min(same[p][q], Math.min(length, otherLength));
        if (alike == length || alike == otherLength) {
            return length - otherLength;
        }
        return text[p + alike] - text[q + alike];
    }

    /** The longest substring (a place and a length) with enough places, or documents; of several the first. */
    int[] longest(int enough, boolean inDocuments) {
        int[] best = {0, 0};
        for (int p = 0; p < n; p++) {
            int[] lengths = new int[inDocuments ? book.length : n];
            for (int q = 0; q < n; q++) {
                int which = inDocuments ? owner[q] : q;
                lengths[which] = Math.max(lengths[which], same[p][q]);
            }
            Arrays.sort(lengths);
            int length = enough <= lengths.length ? lengths[lengths.length - enough] : 0;
            if (length > best[1] || length == best[1] && length > 0 && compare(p, length, best[0], length) < 0) {
                best = new int[] {p, length};
            }
        }
        return best;
    }

    /** The substring of a length that stands at most places (a place and how many); of several the first. */
    int[] oftenest(int length) {
        int[] best = {0, 0};
        for (int p = 0; p < n; p++) {
            if (left[p] >= length) {
                int times = 0;
                for (int q = 0; q < n; q++) {
                    times += standsAt(p, length, q) ? 1 : 0;
                }
                if (times > best[1] || times == best[1] && compare(p, length, best[0], length) < 0) {
                    best = new int[] {p, times};
                }
            }
        }
        return best;
    }

    int unique(int p) {
        int elsewhere = 0;
        for (int q = 0; q < n; q++) {
            elsewhere = Math.max(elsewhere, q == p ? 0 : same[p][q]);
        }
        return elsewhere < left[p] ? elsewhere + 1 : 0;
    }

    /** In order. Something else comes behind it than at its least place where no more than it is alike. */
    List<int[]> maximals() {
        List<int[]> found = new ArrayList<>();
        for (int p = 0; p < n; p++) {
            TreeSet<Integer> lengths = new TreeSet<>();
            for (int q = p + 1; q < n; q++) {
                if (same[p][q] > earlier[p]) {
                    lengths.add((int) same[p][q]);
                }
            }
            for (int length : lengths) {
                if (differsInFront(p, length)) {
                    found.add(new int[] {p, length});
                }
            }
        }
        found.sort((one, other) -> compare(one[0], one[1], other[0], other[1]));
        return found;
    }

    private boolean differsInFront(int p, int length) {
        for (int q = 0; q < n; q++) {
            if (standsAt(p, length, q) && (before(q) == NONE || before(q) != before(p))) {
                return true;
            }
        }
        return false;
    }

    int absent(int length) {
        Set<String> whole = substrings(length);
        Set<String> shorter = substrings(length - 1);
        Map<String, List<Character>> lasts = new HashMap<>();
        for (String end : shorter) {
            lasts.computeIfAbsent(end.substring(0, length - 2), key -> new ArrayList<>()).add(end.charAt(length - 2));
        }
        int found = 0;
        for (String start : shorter) {
            for (char last : lasts.getOrDefault(start.substring(1), List.of())) {
                found += whole.contains(start + last) ? 0 : 1;
            }
        }
        return found;
    }

    private Set<String> substrings(int length) {
        Set<String> found = new HashSet<>();
        for (int p = 0; p < n; p++) {
            if (left[p] >= length) {
                found.add(suffix(p).substring(0, length));
            }
        }
        return found;
    }

    /** Each a place, a length and the least place where it stands before (or NONE). */
    List<int[]> factors(int d) {
        List<int[]> found = new ArrayList<>();
        for (int p = first[d]; left[p] > 0; p += Math.max(earlier[p], 1)) {
            found.add(new int[] {p, Math.max(earlier[p], 1), earlier[p] == 0 ? NONE : placesOf(p, earlier[p]).get(0)});
        }
        return found;
    }

    /** A falling word begins where the rest of the document is less than at all places in front. */
    List<Integer> words(int d) {
        List<Integer> found = new ArrayList<>();
        int least = n;
        for (int p = first[d]; left[p] > 0; p++) {
            if (rowOf[p] < least) {
                least = rowOf[p];
                found.add(p);
            }
        }
        return found;
    }

    int square(int p) {
        for (int half = 1; half + half <= left[p]; half++) {
            if (same[p][p + half] >= half) {
                return half;
            }
        }
        return 0;
    }

    int mirror(int p) {
        int length = left[p];
        while (length > 0 && !mirrored(p, p + length - 1)) {
            length--;
        }
        return length;
    }

    private boolean mirrored(int from, int to) {
        int i = 0;
        while (from + i < to - i && text[from + i] == text[to - i]) {
            i++;
        }
        return from + i >= to - i;
    }

    int match(int p, int d) {
        int longest = 0;
        for (int q = first[d]; q < first[d + 1]; q++) {
            longest = Math.max(longest, q == p ? 0 : same[p][q]);
        }
        return longest;
    }
}
