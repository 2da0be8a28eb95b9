import java.util.List;
import java.util.TreeSet;
import java.util.function.IntUnaryOperator;

/** Books of 3,000 places: what the calls answer there is held against a table of all pairs of places. */
public final class FullBooksTest {
    private static final int CALLS = 512;
    private static final int RATE = 7;
    private static final int[] LENGTHS = {1, 2, 3, 4, 5, 7, 11, 40, 73, 74, 75, 500, 1498, 1499, 1500, 2998, 2999,
        3000};
    private static final String[] QUERIES = {".*", "a", "a{2,5}b?", "(ab|ba)+", "[^b]{3}.*", "a.{0,99}b", "(.?){99}b*",
        ".{99}.{21}", "(a|b){60}", "(ab|b.)+[a-m]", "(a|ab|b.){20}", "b+|.{7}", ""};

    private final Check check;
    private final String name;
    private final Pairs pairs;
    private TextRows rows;
    private int used;

    private FullBooksTest(Check check, String name, String... book) {
        this.check = check;
        this.name = name;
        pairs = new Pairs(book);
        check.due(name + ": places", pairs.n, 3000);
        renew();
    }

    public static void main(String[] arguments) {
        Check check = new Check("FullBooksTest");
        int number = 0;
        for (String[] book : FullBooks.all()) {
            new FullBooksTest(check, "full book " + number, book).run();
            number++;
        }
        check.finish();
    }

    private void run() {
        rowsAndPlaces();
        ranks();
        for (int p = 5; p < pairs.n; p += 271) {
            for (int length : LENGTHS) {
                if (length <= pairs.left[p] && length % 5 != p % 3) {
                    pattern(p, length);
                }
            }
        }
        lengths();
        longest();
        maximals();
        pieces();
        for (String query : QUERIES) {
            query(query);
        }
        counts();
    }

    /** An object has but 512 calls, so another one takes over in time. */
    private TextRows rows(int calls) {
        if (used + calls > CALLS) {
            renew();
            check.holds(name + ": a new object has as many calls", used + calls <= CALLS);
        }
        used += calls;
        return rows;
    }

    private void renew() {
        rows = Books.of(RATE, pairs.book);
        used = 1;
        for (String document : pairs.book) {
            used += (document.length() + 19) / 20 + 2;
        }
    }

    private void due(String call, int got, int want) {
        check.due(name + ": " + call, got, want);
    }

    private void list(String call, List<Integer> want, int step, IntUnaryOperator got) {
        for (int k = 0; k < want.size(); k += step) {
            due(call + " " + k, got.applyAsInt(k), want.get(k));
        }
        due(call + " that is none", got.applyAsInt(want.size()), TextRows.BAD);
    }

    private void rowsAndPlaces() {
        for (int p = 0; p < pairs.n; p++) {
            int row = pairs.rowOf[p];
            int steps = rows(11).count(3);
            due("row of " + p, rows.row(p), row);
            due("place of " + row, rows.place(row), p);
            due("its steps", rows.count(3) - steps, (p - pairs.first[pairs.owner[p]]) % RATE);
            due("byte at " + p, rows.byteAt(p), pairs.text[p]);
            due("shared of " + row, rows.shared(row), row == 0 ? 0 : pairs.same[p][pairs.byRow[row - 1]]);
            due("before " + row, rows.before(row), pairs.before(p));
            due("step of " + row, rows.step(row), pairs.before(p) == Pairs.NONE ? Pairs.NONE : pairs.rowOf[p - 1]);
            due("unique at " + p, rows.unique(p), pairs.left[p] == 0 ? TextRows.BAD : pairs.unique(p));
            due("square at " + p, rows.square(p), pairs.square(p));
            due("mirror at " + p, rows.mirror(p), pairs.mirror(p));
        }
        for (int p = 0; p < pairs.n; p += 97) {
            for (int q = 0; q < pairs.n; q += 113) {
                due("alike of " + p + " and " + q, rows(1).alike(p, q), pairs.same[p][q]);
            }
        }
        for (int p = 0; p < pairs.n; p += 61) {
            for (int d = 0; d < pairs.book.length; d++) {
                due("match of " + p + " in " + d, rows(1).match(p, d), pairs.match(p, d));
            }
        }
    }

    private void ranks() {
        for (int c : new int[] {0, 'a', 'b', 'c', 127, 128, 255}) {
            int found = 0;
            for (int row = 0; row < pairs.n; row++) {
                if (row % 83 == 0) {
                    due("rank of " + c + " at " + row, rows(1).rank(c, row), found);
                }
                if (pairs.before(pairs.byRow[row]) == c) {
                    if (found % 83 == 0) {
                        due("select of " + c + ", " + found, rows(1).select(c, found), row);
                    }
                    found++;
                }
            }
            due("rank of " + c + " at the end", rows(2).rank(c, pairs.n), found);
            due("select of " + c + " that is none", rows.select(c, found), TextRows.BAD);
        }
    }

    private void pattern(int p, int length) {
        String told = "pattern of " + length + " at " + p + ": ";
        List<Integer> places = pairs.placesOf(p, length);
        List<Integer> byRow = places.stream().map(q -> pairs.rowOf[q]).sorted().map(row -> pairs.byRow[row]).toList();
        int step = 1 + places.size() / 9;
        due(told + "rows", rows(240).take(p, length), places.size());
        due(told + "first row", rows.pattern(1), pairs.firstRowOf(p, length));
        due(told + "order", rows.order(), pairs.order(p, length));
        list(told + "place", places, step, k -> rows.sorted(k));
        list(told + "at", byRow, step, k -> rows.at(k));
        for (boolean behind : new boolean[] {true, false}) {
            List<Integer> bytes = pairs.bytesBeside(behind, p, length);
            due(told + "more", rows.more(behind, -1), bytes.size());
            list(told + "more", bytes, 1 + bytes.size() / 9, k -> rows.more(behind, k));
        }
        List<Integer> documents = pairs.documentsOf(p, length);
        due(told + "ranked", rows.ranked(-1), documents.size());
        list(told + "ranked", documents, 1, k -> rows.ranked(k));
        for (int d = 0; d < pairs.book.length; d++) {
            due(told + "times in " + d, rows.times(d), pairs.timesIn(d, p, length));
        }
        longerAndBack(told, p, length);
        near(told, p, length);
    }

    private void longerAndBack(String told, int p, int length) {
        for (int c : new int[] {'a', 'b'}) {
            int behind = (int) pairs.placesOf(p, length).stream().filter(q -> pairs.text[q + length] == c).count();
            int inFront = (int) pairs.placesOf(p, length).stream().filter(q -> pairs.before(q) == c).count();
            due(told + "grow", rows.grow(c), behind);
            due(told + "back", rows.back(), behind == 0 ? TextRows.BAD : length);
            due(told + "front", rows.front(c), inFront);
            due(told + "back", rows.back(), inFront == 0 ? TextRows.BAD : length);
            due(told + "rows as before", rows.pattern(2), pairs.placesOf(p, length).size());
        }
    }

    private void near(String told, int p, int length) {
        for (int most = 0; most <= 3; most++) {
            List<int[]> places = length > 40 ? List.of() : pairs.near(p, length, most);
            due(told + "near", rows.near(most), length > 40 ? TextRows.BAD : places.size());
            for (int k = most; k < places.size(); k += 1 + places.size() / 5) {
                due(told + "place near", rows.nearOf(k, 0), places.get(k)[0]);
                due(told + "bytes that differ", rows.nearOf(k, 1), places.get(k)[1]);
            }
        }
    }

    private void lengths() {
        int all = pairs.different(0);
        due("different of all lengths", rows(1).different(0), all);
        for (int length : LENGTHS) {
            due("different of " + length, rows(3).different(length), pairs.different(length));
            int[] often = pairs.oftenest(length);
            due("oftenest of " + length, rows.oftenest(length), often[1]);
            if (often[1] > 0) {
                due("where it stands", rows.pattern(1), pairs.firstRowOf(often[0], length));
            }
            if (length >= 2) {
                due("absent of " + length, rows(1).absent(length), pairs.absent(length));
            }
        }
        for (int k = 0; k < all; k += 1 + all / 40) {
            int length = rows(3).kth(k);
            check.holds(name + ": substring " + k, length > 0);
            due("order of substring " + k, pairs.order(pairs.byRow[rows.pattern(1)], length), k);
        }
        due("a substring too many", rows(1).kth(all), TextRows.BAD);
    }

    private void longest() {
        for (int enough : new int[] {1, 2, 3, 39, 40, 41, 1000, 2999, 3000}) {
            for (boolean inDocuments : new boolean[] {true, false}) {
                if (enough > 1 || inDocuments) {
                    int[] want = pairs.longest(enough, inDocuments);
                    rows(2);
                    due("longest of " + enough, inDocuments ? rows.common(enough) : rows.repeated(enough), want[1]);
                    if (want[1] > 0) {
                        due("where it stands", rows.pattern(1), pairs.firstRowOf(want[0], want[1]));
                    }
                }
            }
        }
    }

    private void maximals() {
        List<int[]> want = pairs.maximals();
        due("maximal repeats", rows(1).maximal(-1), want.size());
        for (int k = 0; k < want.size(); k += 1 + want.size() / 300) {
            due("maximal repeat " + k, rows(2).maximal(k), want.get(k)[1]);
            due("where it stands", rows.pattern(1), pairs.firstRowOf(want.get(k)[0], want.get(k)[1]));
        }
        due("a maximal repeat too many", rows(1).maximal(want.size()), TextRows.BAD);
    }

    private void pieces() {
        for (int d = 0; d < pairs.book.length; d++) {
            int document = d;
            List<int[]> factors = pairs.factors(d);
            due("factors of " + d, rows(1).factor(d, -1, 0), factors.size());
            for (int what = 0; what < 3; what++) {
                int part = what;
                list("factor of " + d + ", " + what + " of", factors.stream().map(factor -> factor[part]).toList(),
                        1 + factors.size() / 80, k -> rows(1).factor(document, k, part));
            }
            List<Integer> words = pairs.words(d);
            due("words of " + d, rows(1).word(d, -1), words.size());
            list("word of " + d, words, 1 + words.size() / 80, k -> rows(1).word(document, k));
            String text = pairs.book[d];
            for (int i = 0; i < text.length(); i += 1 + text.length() / 40) {
                due("unwound " + d + ", " + i, rows(1).unwound(d, i), text.charAt(text.length() - 1 - i));
            }
            due("unwound too far", rows(1).unwound(d, text.length()), TextRows.BAD);
        }
    }

    private void query(String query) {
        PlainQuery meaning = PlainQuery.of(query);
        TextRows asked = null;
        int found = 0;
        for (int p = 0; p < pairs.n; p += 61) {
            TreeSet<Integer> ends = meaning.ends(pairs.suffix(p), 0);
            ends.remove(0);
            if (rows(query.length() + 20) != asked) {
                asked = rows;
                found = Books.answer(asked, query);
            }
            int k = answersBelow(p, found);
            boolean matches = rows.answered(k, 0) == p;
            check.holds(name + ": " + query + " at " + p, matches == !ends.isEmpty());
            due(query + ", least at " + p, matches ? rows.answered(k, 1) : 0, ends.isEmpty() ? 0 : ends.first());
            due(query + ", greatest at " + p, matches ? rows.answered(k, 2) : 0, ends.isEmpty() ? 0 : ends.last());
        }
        due(query + ": one too many", rows.answered(found, 0), TextRows.BAD);
    }

    /** How many of the places where a query matches are less than one; they are in order. */
    private int answersBelow(int p, int found) {
        int low = 0;
        int high = found;
        while (low < high) {
            int middle = (low + high) / 2;
            if (rows.answered(middle, 0) < p) {
                low = middle + 1;
            } else {
                high = middle;
            }
        }
        return low;
    }

    private void counts() {
        int changes = 0;
        int sum = 0;
        int greatest = 0;
        for (int row = 0; row < pairs.n; row++) {
            int p = pairs.byRow[row];
            int inFront = pairs.before(p);
            int shared = row == 0 ? 0 : pairs.same[p][pairs.byRow[row - 1]];
            changes += row == 0 || inFront == Pairs.NONE || inFront != pairs.before(pairs.byRow[row - 1]) ? 1 : 0;
            sum += shared;
            greatest = Math.max(greatest, shared);
        }
        int bytes = (int) String.join("", pairs.book).chars().distinct().count();
        int[] want = {pairs.n, pairs.book.length, RATE, rows(9).count(3), changes, sum, greatest, bytes};
        for (int what = 0; what < want.length; what++) {
            due("count of " + what, rows.count(what), want[what]);
        }
    }
}
