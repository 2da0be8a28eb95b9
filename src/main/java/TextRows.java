import java.util.Arrays;

/**
 * A book of documents that is indexed whole: all its places in the order of what stands from them on, and what
 * can be told from there. ../shared/DOC.md is what it must do; README.md says how it is used.
 */
public final class TextRows {
    public static final int BAD = -1, NONE = -2;

    private static final int PLACES = 3000;
    private static final int DOCUMENTS = 40;
    private static final int BYTES = 256;
    private static final int FED = 20;
    private static final int RATES = 64;
    private static final int NEAR_BYTES = 40;
    private static final int NEAR_OTHERS = 3;
    private static final int SIGNS = 200;
    private static final int FIRST_SIGN = 32;
    private static final int LAST_SIGN = 126;
    private static final int OPEN = 20;
    private static final int SIZE = 120;
    private static final int TOO_GREAT = -1000;

    private final Book book;
    private final Index index;
    private final Held held;
    private final Near likes;
    private final Query query;
    private final Matcher matcher;
    private final Repeats repeats;
    private final Pieces pieces;

    public TextRows() {
        book = new Book();
        index = new Index();
        held = new Held(index);
        likes = new Near(index, held);
        query = new Query();
        matcher = new Matcher(index, query);
        repeats = new Repeats(index, held);
        pieces = new Pieces(index);
    }

    public int feed(int a, int b, int c, int d, int e) {
        if (book.atHand > PLACES - FED) {
            return BAD;
        }
        book.addFour(a);
        book.addFour(b);
        book.addFour(c);
        book.addFour(d);
        book.addFour(e);
        return book.atHand;
    }

    public int end(int n) {
        return book.keepOfLast(n);
    }

    public int cut() {
        return book.endDocument();
    }

    public int clear() {
        return book.dropAll();
    }

    public int build(int rate) {
        if (book.documents == 0 || rate < 1 || rate > RATES) {
            return BAD;
        }
        index.learn(book, rate);
        repeats.learn();
        pieces.learn();
        held.become(0, 0);
        likes.found = 0;
        matcher.forget();
        return index.size;
    }

    public int place(int i) {
        return index.has(i) ? index.tell(index.places[i]) : BAD;
    }

    public int row(int p) {
        return index.has(p) ? index.rows[p] : BAD;
    }

    public int shared(int i) {
        return index.has(i) ? index.alikes[i] : BAD;
    }

    public int before(int i) {
        return index.has(i) ? index.fronts[i] : BAD;
    }

    public int step(int i) {
        return index.has(i) ? index.rowInFront(i) : BAD;
    }

    public int rank(int c, int i) {
        return isByte(c) && (i == index.size || index.has(i)) && index.size > 0 ? index.frontsUpTo(c, i) : BAD;
    }

    public int select(int c, int k) {
        return isByte(c) && k >= 0 ? index.rowOfFront(c, k) : BAD;
    }

    public int byteAt(int p) {
        return index.has(p) ? index.byteOf(p) : BAD;
    }

    public int document(int x, int what) {
        if (what == 2) {
            return index.has(x) ? index.owners[x] : BAD;
        }
        if (what < 0 || what > 2 || !index.hasDocument(x)) {
            return BAD;
        }
        return what == 0 ? index.firsts[x] : index.bytesFrom(index.firsts[x]);
    }

    public int alike(int p, int q) {
        return index.has(p) && index.has(q) ? index.alikeFrom(p, q) : BAD;
    }

    public int begin() {
        if (index.size == 0) {
            return BAD;
        }
        held.become(0, 0);
        return held.rows();
    }

    public int grow(int c) {
        return index.size > 0 && isByte(c) ? held.extend(true, c) : BAD;
    }

    public int front(int c) {
        return index.size > 0 && isByte(c) ? held.extend(false, c) : BAD;
    }

    public int back() {
        return held.undo();
    }

    public int pattern(int what) {
        if (index.size == 0) {
            return BAD;
        }
        switch (what) {
            case 0:
                return held.length;
            case 1:
                return held.low;
            case 2:
                return held.rows();
            case 3:
                return held.done;
            default:
                return BAD;
        }
    }

    public int patternByte(int i) {
        return i >= 0 && i < held.length ? index.text[held.start + i] : BAD;
    }

    public int at(int k) {
        return k >= 0 && k < held.rows() ? index.tell(index.places[held.low + k]) : BAD;
    }

    public int sorted(int k) {
        return k >= 0 && k < held.rows() ? held.placeInOrder(k) : BAD;
    }

    public int more(boolean behind, int k) {
        return index.size > 0 ? held.neighbour(behind, k) : BAD;
    }

    public int ranked(int k) {
        return index.size > 0 ? held.documentInOrder(k) : BAD;
    }

    public int times(int d) {
        return index.hasDocument(d) ? held.placesIn(d) : BAD;
    }

    public int take(int p, int length) {
        if (!index.has(p) || length < 1 || length > index.bytesFrom(p)) {
            return BAD;
        }
        held.become(p, length);
        return held.rows();
    }

    public int near(int m) {
        return m >= 0 && m <= NEAR_OTHERS && held.length > 0 && held.length <= NEAR_BYTES ? likes.find(m) : BAD;
    }

    public int nearOf(int k, int what) {
        if (k < 0 || k >= likes.found || what < 0 || what > 1) {
            return BAD;
        }
        return what == 0 ? likes.places[k] : likes.others[k];
    }

    public int ask(int c) {
        return c >= FIRST_SIGN && c <= LAST_SIGN ? query.add(c) : BAD;
    }

    public int answer() {
        if (index.size == 0) {
            return BAD;
        }
        int size = query.read();
        int wrong = query.wrong;
        if (wrong == NONE && size <= SIZE) {
            matcher.answerQuery();
        }
        query.signCount = 0;
        if (wrong != NONE) {
            return -2 - wrong;
        }
        return size > SIZE ? TOO_GREAT : matcher.found();
    }

    public int answered(int k, int what) {
        return k >= 0 && k < matcher.found() ? matcher.tellFound(k, what) : BAD;
    }

    public int different(int length) {
        return index.size > 0 && length >= 0 ? repeats.howManyOf(length) : BAD;
    }

    public int kth(int k) {
        return k >= 0 ? repeats.holdInOrder(k) : BAD;
    }

    public int order() {
        return index.size > 0 ? repeats.lesserThanHeld() : BAD;
    }

    public int repeated(int q) {
        return index.size > 0 && q >= 2 ? repeats.holdLongest(q, false) : BAD;
    }

    public int common(int q) {
        return index.size > 0 && q >= 1 ? repeats.holdLongest(q, true) : BAD;
    }

    public int oftenest(int length) {
        return index.size > 0 && length >= 1 ? repeats.holdOftenest(length) : BAD;
    }

    public int unique(int p) {
        return index.has(p) && index.text[p] >= 0 ? repeats.leastAlone(p) : BAD;
    }

    public int maximal(int k) {
        return index.size > 0 && k >= -1 ? repeats.holdMaximal(k) : BAD;
    }

    public int absent(int length) {
        return index.size > 0 && length >= 2 ? repeats.howManyAbsent(length) : BAD;
    }

    public int factor(int d, int k, int what) {
        if (!index.hasDocument(d) || k < -1) {
            return BAD;
        }
        if (k == -1) {
            return pieces.factors(d);
        }
        return what >= 0 && what <= 2 ? pieces.tellFactor(d, k, what) : BAD;
    }

    public int word(int d, int k) {
        return index.hasDocument(d) && k >= -1 ? pieces.fallingWord(d, k) : BAD;
    }

    public int square(int p) {
        return index.has(p) ? pieces.leastTwice(p) : BAD;
    }

    public int mirror(int p) {
        return index.has(p) ? pieces.longestMirror(p) : BAD;
    }

    public int match(int p, int d) {
        return index.has(p) && index.hasDocument(d) ? pieces.longestIn(p, d) : BAD;
    }

    public int count(int what) {
        switch (what) {
            case 8:
                return book.documents;
            case 9:
                return book.atHand;
            case 10:
                return query.signCount;
            default:
                return index.size > 0 ? countOfIndex(what) : BAD;
        }
    }

    public int unwound(int d, int i) {
        if (!index.hasDocument(d) || i < 0 || i >= index.bytesFrom(index.firsts[d])) {
            return BAD;
        }
        return index.text[index.endOf(d) - 1 - i];
    }

    private int countOfIndex(int what) {
        switch (what) {
            case 0:
                return index.size;
            case 1:
                return index.documents;
            case 2:
                return index.rate;
            case 3:
                return index.steps;
            case 4:
                return repeats.changes[index.size - 1];
            case 5:
                return index.sumOfAlikes();
            case 6:
                return index.greatestAlike();
            case 7:
                return repeats.howManyOf(1);
            default:
                return BAD;
        }
    }

    private static boolean isByte(int c) {
        return c >= 0 && c < BYTES;
    }

    /** The documents as they are written, which an index is made of. */
    private static final class Book {
        /** Bytes, and NONE at each END. */
        final int[] text = new int[PLACES];
        /** The first place of each document, and behind the last one the first place that is free. */
        final int[] firsts = new int[DOCUMENTS + 1];
        final int[] hand = new int[PLACES];
        int documents;
        int atHand;

        void addFour(int four) {
            for (int shift = 24; shift >= 0; shift -= 8) {
                if (atHand < PLACES) {
                    hand[atHand] = (four >>> shift) & (BYTES - 1);
                    atHand++;
                }
            }
        }

        int keepOfLast(int n) {
            if (n < 0 || n > FED || atHand < FED) {
                return BAD;
            }
            atHand -= FED - n;
            return atHand;
        }

        int endDocument() {
            if (documents >= DOCUMENTS || atHand >= PLACES - firsts[documents]) {
                return BAD;
            }
            int first = firsts[documents];
            System.arraycopy(hand, 0, text, first, atHand);
            text[first + atHand] = NONE;
            documents++;
            firsts[documents] = first + atHand + 1;
            atHand = 0;
            return documents - 1;
        }

        int dropAll() {
            int dropped = documents;
            documents = 0;
            atHand = 0;
            return dropped;
        }
    }

    /** The documents of the last build(), and all their places in the order of their suffixes. */
    private static final class Index {
        /** A byte; at the END of document d the number d - DOCUMENTS, so that comparing numbers compares suffixes. */
        final int[] text = new int[PLACES];
        final int[] owners = new int[PLACES];
        final int[] firsts = new int[DOCUMENTS + 1];
        final int[] places = new int[PLACES];
        final int[] rows = new int[PLACES];
        final int[] alikes = new int[PLACES];
        final int[] fronts = new int[PLACES];
        final Sorter sorter = new Sorter();
        int size;
        int documents;
        int rate = 1;
        int steps;

        void learn(Book book, int newRate) {
            rate = newRate;
            steps = 0;
            documents = book.documents;
            size = book.firsts[documents];
            System.arraycopy(book.firsts, 0, firsts, 0, documents + 1);
            System.arraycopy(book.text, 0, text, 0, size);
            for (int d = 0; d < documents; d++) {
                Arrays.fill(owners, firsts[d], firsts[d + 1], d);
                text[endOf(d)] = d - DOCUMENTS;
            }
            sorter.arrange(text, size, places, rows);
            learnAlikes();
            learnFronts();
        }

        /** From one place to the next what is shared with the row in front falls by one at most. */
        private void learnAlikes() {
            int same = 0;
            for (int p = 0; p < size; p++) {
                int row = rows[p];
                same = row == 0 ? 0 : alikeBehind(p, places[row - 1], same);
                alikes[row] = same;
                same = Math.max(same - 1, 0);
            }
        }

        private void learnFronts() {
            for (int row = 0; row < size; row++) {
                int p = places[row];
                fronts[row] = p == firsts[owners[p]] ? NONE : text[p - 1];
            }
        }

        /** Two ENDs are never equal numbers, so two different places are alike up to an END at the most. */
        private int alikeBehind(int p, int q, int known) {
            int same = known;
            while (p + same < size && q + same < size && text[p + same] == text[q + same]) {
                same++;
            }
            return same;
        }

        int alikeFrom(int p, int q) {
            return p == q ? bytesFrom(p) : alikeBehind(p, q, 0);
        }

        /** Rows are as many as places. */
        boolean has(int placeOrRow) {
            return placeOrRow >= 0 && placeOrRow < size;
        }

        boolean hasDocument(int d) {
            return d >= 0 && d < documents;
        }

        int endOf(int d) {
            return firsts[d + 1] - 1;
        }

        int bytesFrom(int p) {
            return endOf(owners[p]) - p;
        }

        int byteOf(int p) {
            return text[p] < 0 ? NONE : text[p];
        }

        int tell(int p) {
            steps += (p - firsts[owners[p]]) % Math.max(rate, 1);
            return p;
        }

        int rowInFront(int row) {
            return fronts[row] == NONE ? NONE : rows[places[row] - 1];
        }

        int frontsUpTo(int c, int end) {
            int found = 0;
            for (int row = 0; row < end; row++) {
                if (fronts[row] == c) {
                    found++;
                }
            }
            return found;
        }

        int rowOfFront(int c, int k) {
            int left = k;
            for (int row = 0; row < size; row++) {
                if (fronts[row] == c) {
                    if (left == 0) {
                        return row;
                    }
                    left--;
                }
            }
            return BAD;
        }

        int sumOfAlikes() {
            int sum = 0;
            for (int row = 0; row < size; row++) {
                sum += alikes[row];
            }
            return sum;
        }

        int greatestAlike() {
            int greatest = 0;
            for (int row = 0; row < size; row++) {
                greatest = Math.max(greatest, alikes[row]);
            }
            return greatest;
        }
    }

    /** Brings places into the order of their suffixes by looking at twice as many signs in each round. */
    private static final class Sorter {
        /** Places in the order of the second halves of what is looked at. */
        final int[] halves = new int[PLACES];
        final int[] newRanks = new int[PLACES];
        final int[] starts = new int[PLACES + 1];

        void arrange(int[] text, int size, int[] places, int[] ranks) {
            for (int p = 0; p < size; p++) {
                ranks[p] = text[p] + DOCUMENTS;
                halves[p] = p;
            }
            sortByRank(size, BYTES + DOCUMENTS, places, ranks);
            int different = rankAnew(size, 0, places, ranks);
            for (int width = 1; width < size && different < size; width += width) {
                sortByHalves(size, width, places);
                sortByRank(size, different, places, ranks);
                different = rankAnew(size, width, places, ranks);
            }
        }

        /** The places are in order by their first halves, and so are the second halves that begin there. */
        private void sortByHalves(int size, int width, int[] places) {
            int filled = 0;
            for (int p = size - width; p < size; p++) {
                halves[filled] = p;
                filled++;
            }
            for (int i = 0; i < size; i++) {
                if (places[i] >= width) {
                    halves[filled] = places[i] - width;
                    filled++;
                }
            }
        }

        private void sortByRank(int size, int different, int[] places, int[] ranks) {
            Arrays.fill(starts, 0, different + 1, 0);
            for (int p = 0; p < size; p++) {
                starts[ranks[p] + 1]++;
            }
            for (int rank = 1; rank <= different; rank++) {
                starts[rank] += starts[rank - 1];
            }
            for (int i = 0; i < size; i++) {
                int p = halves[i];
                places[starts[ranks[p]]] = p;
                starts[ranks[p]]++;
            }
        }

        private int rankAnew(int size, int width, int[] places, int[] ranks) {
            int rank = 0;
            newRanks[places[0]] = 0;
            for (int i = 1; i < size; i++) {
                int p = places[i - 1];
                int q = places[i];
                if (ranks[p] != ranks[q] || rankAt(p + width, size, ranks) != rankAt(q + width, size, ranks)) {
                    rank++;
                }
                newRanks[q] = rank;
            }
            System.arraycopy(newRanks, 0, ranks, 0, size);
            return rank + 1;
        }

        private static int rankAt(int p, int size, int[] ranks) {
            return p < size ? ranks[p] : NONE;
        }
    }

    /** The pattern at hand: it always stands somewhere, so a place and a length are all of it. */
    private static final class Held {
        final Index index;
        /** Whether each call of the history was a grow(). No longer than the pattern, which stands in the index. */
        final boolean[] grown = new boolean[PLACES];
        final int[] tally = new int[BYTES];
        int done;
        int start;
        int length;
        int low;
        int high;

        Held(Index index) {
            this.index = index;
        }

        void become(int p, int newLength) {
            stand(p, newLength);
            done = 0;
        }

        private void stand(int p, int newLength) {
            start = p;
            length = newLength;
            low = index.rows[p];
            while (low > 0 && index.alikes[low] >= length) {
                low--;
            }
            high = index.rows[p] + 1;
            while (high < index.size && index.alikes[high] >= length) {
                high++;
            }
        }

        int rows() {
            return high - low;
        }

        /** The byte behind the pattern, or in front of it, where a row has it; below 0 if there is none. */
        private int beside(boolean behind, int row) {
            return behind ? index.text[index.places[row] + length] : index.fronts[row];
        }

        int extend(boolean behind, int c) {
            int row = low;
            while (row < high && beside(behind, row) != c) {
                row++;
            }
            if (row == high || done >= PLACES) {
                return 0;
            }
            stand(behind ? index.places[row] : index.places[row] - 1, length + 1);
            grown[done] = behind;
            done++;
            return rows();
        }

        int undo() {
            if (done == 0) {
                return BAD;
            }
            done--;
            stand(grown[done] ? start : start + 1, length - 1);
            return length;
        }

        int placeInOrder(int k) {
            int left = k;
            for (int p = 0; p < index.size; p++) {
                if (index.rows[p] >= low && index.rows[p] < high) {
                    if (left == 0) {
                        return p;
                    }
                    left--;
                }
            }
            return BAD;
        }

        int neighbour(boolean behind, int k) {
            Arrays.fill(tally, 0);
            for (int row = low; row < high; row++) {
                int c = beside(behind, row);
                if (c >= 0) {
                    tally[c] = 1;
                }
            }
            int seen = 0;
            for (int c = 0; c < BYTES; c++) {
                if (tally[c] > 0) {
                    if (seen == k) {
                        return c;
                    }
                    seen++;
                }
            }
            return k == -1 ? seen : BAD;
        }

        int placesIn(int d) {
            countByDocument();
            return tally[d];
        }

        private void countByDocument() {
            Arrays.fill(tally, 0, DOCUMENTS, 0);
            for (int row = low; row < high; row++) {
                tally[index.owners[index.places[row]]]++;
            }
        }

        int documentInOrder(int k) {
            countByDocument();
            int have = 0;
            for (int d = 0; d < index.documents; d++) {
                if (tally[d] > 0) {
                    if (k == documentsAheadOf(d)) {
                        return d;
                    }
                    have++;
                }
            }
            return k == -1 ? have : BAD;
        }

        private int documentsAheadOf(int d) {
            int ahead = 0;
            for (int other = 0; other < index.documents; other++) {
                if (tally[other] > tally[d] || (tally[other] == tally[d] && other < d)) {
                    ahead++;
                }
            }
            return ahead;
        }
    }

    /** The places where the pattern stands but for some bytes, as near() found them. */
    private static final class Near {
        final Index index;
        final Held held;
        final int[] places = new int[PLACES];
        final int[] others = new int[PLACES];
        int found;

        Near(Index index, Held held) {
            this.index = index;
            this.held = held;
        }

        int find(int most) {
            found = 0;
            for (int p = 0; p < index.size; p++) {
                if (held.length <= index.bytesFrom(p)) {
                    int differ = differAt(p, most);
                    if (differ <= most) {
                        places[found] = p;
                        others[found] = differ;
                        found++;
                    }
                }
            }
            return found;
        }

        /** More than most is not counted to its end. */
        private int differAt(int p, int most) {
            int differ = 0;
            for (int i = 0; i < held.length && differ <= most; i++) {
                if (index.text[p + i] != index.text[held.start + i]) {
                    differ++;
                }
            }
            return differ;
        }
    }

    /** The query's signs, and what reading them tells of each item, kept at the place of the item's first sign. */
    private static final class Query {
        static final int WITHOUT_END = -1;
        static final int LONGS = 4;

        final int[] signs = new int[SIGNS];
        final int[] sizes = new int[SIGNS];
        final int[] ends = new int[SIGNS];
        final int[] least = new int[SIGNS];
        final int[] most = new int[SIGNS];
        /** The bytes that an atom may be, LONGS numbers of 64 bits each. */
        final long[] sets = new long[SIGNS * LONGS];
        int signCount;
        int next;
        int wrong = NONE;

        int add(int sign) {
            if (signCount >= SIGNS) {
                return BAD;
            }
            signs[signCount] = sign;
            signCount++;
            return signCount;
        }

        /** The size, which is SIZE + 1 for all that are too great; wrong tells the first sign that can't come. */
        int read() {
            next = 0;
            wrong = NONE;
            int size = readSum(0);
            if (wrong == NONE && next < signCount) {
                wrong = next;
            }
            return size;
        }

        private boolean comes(int sign) {
            return next < signCount && signs[next] == sign;
        }

        private boolean goesOn() {
            return wrong == NONE && next < signCount;
        }

        private static int bounded(int size) {
            return Math.min(size, SIZE + 1);
        }

        /** A sum is as great as all items of all its rows, so | adds nothing to it. */
        private int readSum(int depth) {
            int size = 0;
            for (int parts = 0; parts < SIGNS && goesOn() && signs[next] != ')'; parts++) {
                if (signs[next] == '|') {
                    next++;
                } else {
                    size = bounded(size + readItem(depth));
                }
            }
            return size;
        }

        private int readItem(int depth) {
            int first = next;
            int size = readAtom(depth);
            least[first] = 1;
            most[first] = 1;
            if (goesOn()) {
                readRepeat(first);
            }
            sizes[first] = bounded(size * copies(first));
            ends[first] = next;
            return sizes[first];
        }

        /** How often an item's atom must be written out; what goes on without an end repeats its last copy. */
        int copies(int first) {
            return most[first] == WITHOUT_END ? Math.max(least[first], 1) : most[first];
        }

        private int readAtom(int depth) {
            int first = next;
            Arrays.fill(sets, first * LONGS, first * LONGS + LONGS, 0L);
            switch (signs[first]) {
                case '(':
                    return readBrackets(depth);
                case '[':
                    readRanges(first);
                    return 1;
                case '.':
                    addBytes(first, 0, BYTES - 1);
                    next++;
                    return 1;
                case ']':
                case '{':
                case '}':
                case '*':
                case '+':
                case '?':
                    wrong = first;
                    return 0;
                default:
                    readPlain(first);
                    return 1;
            }
        }

        private void readPlain(int first) {
            int c = readByte();
            addBytes(first, c, c);
        }

        private int readBrackets(int depth) {
            if (depth >= OPEN) {
                wrong = next;
                return 0;
            }
            next++;
            int size = readSum(depth + 1);
            readSign(')');
            return size;
        }

        private void readSign(int sign) {
            if (wrong == NONE && !comes(sign)) {
                wrong = next;
            }
            next++;
        }

        /** A sign, or \ and any sign; what must stand behind a \ is the caller's to look at. */
        private int readByte() {
            if (comes('\\')) {
                next++;
            }
            if (next >= signCount) {
                wrong = next;
                return 0;
            }
            next++;
            return signs[next - 1];
        }

        private void readRanges(int first) {
            next++;
            boolean others = comes('^');
            if (others) {
                next++;
            }
            readRange(first);
            for (int ranges = 1; ranges < SIGNS && goesOn() && signs[next] != ']'; ranges++) {
                readRange(first);
            }
            readSign(']');
            if (others) {
                for (int i = first * LONGS; i < first * LONGS + LONGS; i++) {
                    sets[i] = ~sets[i];
                }
            }
        }

        private void readRange(int first) {
            int from = readRangeByte();
            int to = from;
            if (wrong == NONE && comes('-')) {
                next++;
                int second = next;
                to = readRangeByte();
                if (wrong == NONE && to < from) {
                    wrong = second;
                }
            }
            addBytes(first, from, to);
        }

        private int readRangeByte() {
            if (comes('[') || comes(']') || comes('-')) {
                wrong = next;
                return 0;
            }
            return readByte();
        }

        private void addBytes(int first, int from, int to) {
            for (int c = from; c <= to; c++) {
                sets[first * LONGS + (c >> 6)] |= 1L << (c & 63);
            }
        }

        boolean mayBe(int first, int c) {
            return (sets[first * LONGS + (c >> 6)] >>> (c & 63) & 1L) != 0L;
        }

        private void readRepeat(int first) {
            switch (signs[next]) {
                case '*':
                    repeat(first, 0, WITHOUT_END);
                    break;
                case '+':
                    repeat(first, 1, WITHOUT_END);
                    break;
                case '?':
                    repeat(first, 0, 1);
                    break;
                case '{':
                    readNumbers(first);
                    break;
                default:
                    break;
            }
        }

        private void repeat(int first, int from, int to) {
            least[first] = from;
            most[first] = to;
            next++;
        }

        private void readNumbers(int first) {
            next++;
            int from = readNumber();
            int to = from;
            if (wrong == NONE && comes(',')) {
                next++;
                int second = next;
                to = comes('}') ? WITHOUT_END : readNumber();
                if (wrong == NONE && to != WITHOUT_END && to < from) {
                    wrong = second;
                }
            }
            least[first] = from;
            most[first] = to;
            readSign('}');
        }

        private int readNumber() {
            if (!figureComes()) {
                wrong = next;
                return 0;
            }
            int number = signs[next] - '0';
            next++;
            if (figureComes()) {
                number = number * 10 + signs[next] - '0';
                next++;
            }
            return number;
        }

        private boolean figureComes() {
            return next < signCount && signs[next] >= '0' && signs[next] <= '9';
        }
    }

    /**
     * The query written out as a tree: leaves are atoms, each other node a row or a choice of two, and repeats are
     * marks on nodes. Parts stand before the node that is made of them, so loops go up and down the tree.
     */
    private static final class Tree {
        /** Nothing but the empty row. */
        static final int EMPTY = -1;
        static final int ATOM = 0;
        static final int ROW = 1;
        static final int CHOICE = 2;
        static final int NODES = SIZE + SIZE;

        final Query query;
        final int[] kinds = new int[NODES];
        /** A node's first part; of an atom the place of its first sign. */
        final int[] lefts = new int[NODES];
        final int[] rights = new int[NODES];
        final boolean[] skips = new boolean[NODES];
        final boolean[] loops = new boolean[NODES];
        int nodes;
        int next;

        Tree(Query query) {
            this.query = query;
        }

        /** The root of a query that was read and is not too great. */
        int grown() {
            nodes = 0;
            next = 0;
            return growSum(0);
        }

        private boolean comes(int sign) {
            return next < query.signCount && query.signs[next] == sign;
        }

        private int growSum(int depth) {
            int sum = growRow(depth);
            for (int rows = 1; rows <= SIGNS && comes('|'); rows++) {
                next++;
                sum = choice(sum, growRow(depth));
            }
            return sum;
        }

        private int growRow(int depth) {
            int row = EMPTY;
            while (next < query.signCount && !comes('|') && !comes(')')) {
                int first = next;
                row = joined(row, query.sizes[first] == 0 ? EMPTY : growItem(first, depth));
                next = Math.max(query.ends[first], first + 1);
            }
            return row;
        }

        private int growItem(int first, int depth) {
            int copies = query.copies(first);
            int row = EMPTY;
            for (int i = 0; i < copies; i++) {
                int atom = growAtom(first, depth);
                if (atom != EMPTY && i >= query.least[first]) {
                    skips[atom] = true;
                }
                if (atom != EMPTY && i == copies - 1 && query.most[first] == Query.WITHOUT_END) {
                    loops[atom] = true;
                }
                row = joined(row, atom);
            }
            return row;
        }

        private int growAtom(int first, int depth) {
            if (query.signs[first] != '(') {
                return node(ATOM, first, EMPTY, false);
            }
            if (depth >= OPEN) {
                return EMPTY;
            }
            next = first + 1;
            return growSum(depth + 1);
        }

        private int joined(int left, int right) {
            if (left == EMPTY || right == EMPTY) {
                return left == EMPTY ? right : left;
            }
            return node(ROW, left, right, skips[left] && skips[right]);
        }

        private int choice(int left, int right) {
            if (left == EMPTY || right == EMPTY) {
                int one = left == EMPTY ? right : left;
                if (one != EMPTY) {
                    skips[one] = true;
                }
                return one;
            }
            return node(CHOICE, left, right, skips[left] || skips[right]);
        }

        private int node(int kind, int left, int right, boolean mayBeEmpty) {
            if (nodes >= NODES) {
                return EMPTY;
            }
            kinds[nodes] = kind;
            lefts[nodes] = left;
            rights[nodes] = right;
            skips[nodes] = mayBeEmpty;
            loops[nodes] = false;
            nodes++;
            return nodes - 1;
        }
    }

    /**
     * Finds the places where a query matches, from the last place on to the first one. At a place each node has
     * the lengths (least and greatest) up to the whole match's end: from the node's own first byte on (ahead), and
     * from right behind the node (after). Bytes ahead need only what was after an atom one place further on, so
     * going up the tree tells all that is ahead, and going down again all that is after, repeats included.
     */
    private static final class Matcher {
        /** A length that can't be; even with all places added it stays beyond what can be. */
        static final int NEVER = 1000000;

        final Index index;
        final Query query;
        final Tree tree;
        final int[] leastAhead = new int[Tree.NODES];
        final int[] mostAhead = new int[Tree.NODES];
        final int[] leastAfter = new int[Tree.NODES];
        final int[] mostAfter = new int[Tree.NODES];
        /** What was found stands from firstFound on up to the end of these. */
        final int[] places = new int[PLACES];
        final int[] least = new int[PLACES];
        final int[] most = new int[PLACES];
        int firstFound = PLACES;

        Matcher(Index index, Query query) {
            this.index = index;
            this.query = query;
            this.tree = new Tree(query);
        }

        void forget() {
            firstFound = PLACES;
        }

        int found() {
            return PLACES - firstFound;
        }

        int tellFound(int k, int what) {
            int i = firstFound + k;
            switch (what) {
                case 0:
                    return places[i];
                case 1:
                    return least[i];
                case 2:
                    return most[i];
                default:
                    return BAD;
            }
        }

        void answerQuery() {
            forget();
            int root = tree.grown();
            if (root == Tree.EMPTY) {
                return;
            }
            for (int p = index.size - 1; p >= 0; p--) {
                goUp(root, index.text[p]);
                if (mostAhead[root] > 0) {
                    firstFound--;
                    places[firstFound] = p;
                    least[firstFound] = leastAhead[root];
                    most[firstFound] = mostAhead[root];
                }
                goDown(root);
            }
        }

        private void goUp(int root, int c) {
            for (int node = 0; node <= root; node++) {
                int left = tree.lefts[node];
                if (tree.kinds[node] == Tree.ATOM) {
                    boolean comes = c >= 0 && query.mayBe(left, c);
                    leastAhead[node] = comes ? leastAfter[node] + 1 : NEVER;
                    mostAhead[node] = comes ? mostAfter[node] + 1 : -NEVER;
                } else {
                    int right = tree.rights[node];
                    boolean both = tree.kinds[node] == Tree.CHOICE || tree.skips[left];
                    leastAhead[node] = both ? Math.min(leastAhead[left], leastAhead[right]) : leastAhead[left];
                    mostAhead[node] = both ? Math.max(mostAhead[left], mostAhead[right]) : mostAhead[left];
                }
            }
        }

        private void goDown(int root) {
            leastAfter[root] = 0;
            mostAfter[root] = 0;
            for (int node = root; node >= 0; node--) {
                if (tree.loops[node]) {
                    leastAfter[node] = Math.min(leastAfter[node], leastAhead[node]);
                    mostAfter[node] = Math.max(mostAfter[node], mostAhead[node]);
                }
                if (tree.kinds[node] != Tree.ATOM) {
                    goDownTo(tree.rights[node], leastAfter[node], mostAfter[node]);
                    goDownLeft(node);
                }
            }
        }

        private void goDownLeft(int node) {
            int left = tree.lefts[node];
            int right = tree.rights[node];
            if (tree.kinds[node] == Tree.CHOICE) {
                goDownTo(left, leastAfter[node], mostAfter[node]);
            } else if (tree.skips[right]) {
                goDownTo(left, Math.min(leastAfter[node], leastAhead[right]),
                        Math.max(mostAfter[node], mostAhead[right]));
            } else {
                goDownTo(left, leastAhead[right], mostAhead[right]);
            }
        }

        private void goDownTo(int node, int leastLength, int mostLength) {
            leastAfter[node] = leastLength;
            mostAfter[node] = mostLength;
        }
    }

    /** What repeats, told by runs of rows that have so many bytes alike. */
    private static final class Repeats {
        final Index index;
        final Held held;
        /** Of each row the first one behind it that shares less. */
        final int[] lesser = new int[PLACES];
        /** How many rows up to each one have another byte before them than the row in front. */
        final int[] changes = new int[PLACES];
        /** In which run (told by its first row) a byte or a document was last seen. */
        final int[] seenIn = new int[BYTES];

        Repeats(Index index, Held held) {
            this.index = index;
            this.held = held;
        }

        void learn() {
            int changed = 0;
            for (int row = 0; row < index.size; row++) {
                if (row == 0 || index.fronts[row] == NONE || index.fronts[row] != index.fronts[row - 1]) {
                    changed++;
                }
                changes[row] = changed;
            }
            for (int row = index.size - 1; row >= 0; row--) {
                int other = row + 1;
                while (other < index.size && index.alikes[other] >= index.alikes[row]) {
                    other = Math.max(lesser[other], other + 1);
                }
                lesser[row] = other;
            }
        }

        private int lengthOf(int row) {
            return index.bytesFrom(index.places[row]);
        }

        /** How many substrings a row's suffix begins with that no row in front begins with. */
        private int newOf(int row) {
            return lengthOf(row) - index.alikes[row];
        }

        int howManyOf(int length) {
            int found = 0;
            for (int row = 0; row < index.size; row++) {
                if (length == 0) {
                    found += newOf(row);
                } else if (index.alikes[row] < length && length <= lengthOf(row)) {
                    found++;
                }
            }
            return found;
        }

        int holdInOrder(int k) {
            int left = k;
            for (int row = 0; row < index.size; row++) {
                if (left < newOf(row)) {
                    held.become(index.places[row], index.alikes[row] + left + 1);
                    return held.length;
                }
                left -= newOf(row);
            }
            return BAD;
        }

        int lesserThanHeld() {
            if (held.length == 0) {
                return 0;
            }
            int found = held.length - index.alikes[held.low] - 1;
            for (int row = 0; row < held.low; row++) {
                found += newOf(row);
            }
            return found;
        }

        /** What stands often enough does so without its last byte too, so lengths can be halved. */
        int holdLongest(int enough, boolean inDocuments) {
            int length = 0;
            int limit = index.size;
            while (length < limit) {
                int middle = length + (limit - length + 1) / 2;
                if (firstRun(middle, enough, inDocuments) == NONE) {
                    limit = middle - 1;
                } else {
                    length = middle;
                }
            }
            if (length > 0) {
                held.become(index.places[firstRun(length, enough, inDocuments)], length);
            }
            return length;
        }

        /** The first row of the first run with so many bytes alike and enough rows, or documents; or NONE. */
        private int firstRun(int length, int enough, boolean inDocuments) {
            Arrays.fill(seenIn, NONE);
            int first = 0;
            int have = 0;
            for (int row = 0; row < index.size; row++) {
                if (index.alikes[row] < length) {
                    first = row;
                    have = 0;
                }
                int d = index.owners[index.places[row]];
                if (length <= lengthOf(row) && (!inDocuments || seenIn[d] != first)) {
                    seenIn[d] = first;
                    have++;
                    if (have >= enough) {
                        return first;
                    }
                }
            }
            return NONE;
        }

        int holdOftenest(int length) {
            int best = 0;
            int bestPlace = 0;
            int have = 0;
            for (int row = 0; row < index.size; row++) {
                if (index.alikes[row] < length) {
                    have = 0;
                }
                if (length <= lengthOf(row)) {
                    have++;
                    if (have > best) {
                        best = have;
                        bestPlace = index.places[row];
                    }
                }
            }
            if (best > 0) {
                held.become(bestPlace, length);
            }
            return best;
        }

        int leastAlone(int p) {
            int row = index.rows[p];
            int elsewhere = index.alikes[row];
            if (row + 1 < index.size) {
                elsewhere = Math.max(elsewhere, index.alikes[row + 1]);
            }
            return elsewhere < index.bytesFrom(p) ? elsewhere + 1 : 0;
        }

        int holdMaximal(int k) {
            int seen = 0;
            for (int row = 0; row < index.size; row++) {
                int here = maximalFrom(row);
                if (k >= seen && k - seen < here) {
                    held.become(index.places[row], maximalLength(row, here - 1 - (k - seen)));
                    return held.length;
                }
                seen += here;
            }
            return k == -1 ? seen : BAD;
        }

        /**
         * Runs that begin at a row and have more bytes alike than it shares with the row in front, each longer in
         * rows and shorter in bytes than the one before it, end at the rows of a chain of lesser ones.
         */
        private int maximalFrom(int row) {
            int found = 0;
            int other = row + 1;
            while (other < index.size && index.alikes[other] > index.alikes[row]) {
                other = Math.max(lesser[other], other + 1);
                if (changes[other - 1] > changes[row]) {
                    found++;
                }
            }
            return found;
        }

        private int maximalLength(int row, int skipped) {
            int left = skipped;
            int other = row + 1;
            while (other < index.size && index.alikes[other] > index.alikes[row]) {
                int length = index.alikes[other];
                other = Math.max(lesser[other], other + 1);
                if (changes[other - 1] > changes[row]) {
                    if (left == 0) {
                        return length;
                    }
                    left--;
                }
            }
            return 0;
        }

        /**
         * What an absent row has between its first and its last byte is a run of its own: each byte in front of
         * the run with each byte behind it is either absent or one of the substrings of that length.
         */
        int howManyAbsent(int length) {
            int inner = length - 2;
            Arrays.fill(seenIn, NONE);
            int first = 0;
            int inFront = 0;
            int behind = 0;
            int pairs = 0;
            for (int row = 0; row < index.size; row++) {
                if (index.alikes[row] < inner) {
                    pairs += inFront * behind;
                    first = row;
                    inFront = 0;
                    behind = 0;
                }
                if (inner <= lengthOf(row)) {
                    int c = index.fronts[row];
                    if (c >= 0 && seenIn[c] != first) {
                        seenIn[c] = first;
                        inFront++;
                    }
                    if (index.alikes[row] <= inner && inner < lengthOf(row)) {
                        behind++;
                    }
                }
            }
            return pairs + inFront * behind - howManyOf(length);
        }
    }

    /** What a document is made of, and what stands at one place. */
    private static final class Pieces {
        final Index index;
        /** At each place the greatest length of a substring that stands at a lesser place, too. */
        final int[] earlier = new int[PLACES];
        /** How far what is the same from end to beginning reaches from a byte in its middle, that one counted. */
        final int[] reaches = new int[PLACES];
        /** Likewise from the gap in front of a byte. */
        final int[] gapReaches = new int[PLACES];
        final int[] upper = new int[PLACES];
        final int[] lower = new int[PLACES];
        /** What each row that is left shares with the upper one that is left. */
        final int[] joint = new int[PLACES];

        Pieces(Index index) {
            this.index = index;
        }

        void learn() {
            learnEarlier();
            learnReaches();
            learnGapReaches();
        }

        /** Rows go from the greatest place on, so that all rows that are left are of lesser places. */
        private void learnEarlier() {
            for (int row = 0; row < index.size; row++) {
                upper[row] = row - 1;
                lower[row] = row + 1;
                joint[row] = index.alikes[row];
            }
            for (int p = index.size - 1; p >= 0; p--) {
                int row = index.rows[p];
                earlier[p] = joint[row];
                if (upper[row] >= 0) {
                    lower[upper[row]] = lower[row];
                }
                if (lower[row] < index.size) {
                    int below = lower[row];
                    earlier[p] = Math.max(joint[row], joint[below]);
                    joint[below] = Math.min(joint[row], joint[below]);
                    upper[below] = upper[row];
                }
            }
        }

        private boolean mirrored(int left, int right) {
            return left >= 0 && index.text[left] == index.text[right];
        }

        private void learnReaches() {
            int left = 0;
            int right = -1;
            for (int p = 0; p < index.size; p++) {
                int reach = p > right ? 1 : Math.min(reaches[left + right - p], right - p + 1);
                while (p + reach < index.size && mirrored(p - reach, p + reach)) {
                    reach++;
                }
                reaches[p] = reach;
                if (p + reach - 1 > right) {
                    left = p - reach + 1;
                    right = p + reach - 1;
                }
            }
        }

        private void learnGapReaches() {
            int left = 0;
            int right = -1;
            for (int p = 0; p < index.size; p++) {
                int reach = p > right ? 0 : Math.min(gapReaches[left + right - p + 1], right - p + 1);
                while (p + reach < index.size && mirrored(p - reach - 1, p + reach)) {
                    reach++;
                }
                gapReaches[p] = reach;
                if (p + reach - 1 > right) {
                    left = p - reach;
                    right = p + reach - 1;
                }
            }
        }

        int factors(int d) {
            int found = 0;
            for (int p = index.firsts[d]; p < index.endOf(d); p += Math.max(earlier[p], 1)) {
                found++;
            }
            return found;
        }

        int tellFactor(int d, int k, int what) {
            int left = k;
            int p = index.firsts[d];
            while (p < index.endOf(d) && left > 0) {
                p += Math.max(earlier[p], 1);
                left--;
            }
            if (p >= index.endOf(d)) {
                return BAD;
            }
            if (what == 0) {
                return p;
            }
            return what == 1 ? Math.max(earlier[p], 1) : leastEarlier(p);
        }

        private int leastEarlier(int p) {
            if (earlier[p] == 0) {
                return NONE;
            }
            int least = p;
            for (int row = index.rows[p]; row > 0 && index.alikes[row] >= earlier[p]; row--) {
                least = Math.min(least, index.places[row - 1]);
            }
            for (int row = index.rows[p] + 1; row < index.size && index.alikes[row] >= earlier[p]; row++) {
                least = Math.min(least, index.places[row]);
            }
            return least;
        }

        int fallingWord(int d, int k) {
            int end = index.endOf(d);
            int first = index.firsts[d];
            int found = 0;
            while (first < end) {
                int period = Math.max(periodOfWords(first, end), 1);
                int last = endOfWords(first, end, period) - period;
                do {
                    if (found == k) {
                        return first;
                    }
                    found++;
                    first += period;
                } while (first <= last);
            }
            return k == -1 ? found : BAD;
        }

        /** The length of the first falling word: as long as bytes repeat the word or are greater, it goes on. */
        private int periodOfWords(int first, int end) {
            int period = 1;
            for (int p = first + 1; p < end && index.text[p] >= index.text[p - period]; p++) {
                if (index.text[p] > index.text[p - period]) {
                    period = p - first + 1;
                }
            }
            return period;
        }

        /** How far the word is repeated, the last time perhaps in part. */
        private int endOfWords(int first, int end, int period) {
            int p = first + period;
            while (p < end && index.text[p] == index.text[p - period]) {
                p++;
            }
            return p;
        }

        int leastTwice(int p) {
            int best = 0;
            int same = index.bytesFrom(p);
            for (int row = index.rows[p]; row > 0 && same > 0; row--) {
                same = Math.min(same, index.alikes[row]);
                best = nearer(best, index.places[row - 1] - p, same);
            }
            same = index.bytesFrom(p);
            for (int row = index.rows[p] + 1; row < index.size && same > 0; row++) {
                same = Math.min(same, index.alikes[row]);
                best = nearer(best, index.places[row] - p, same);
            }
            return best;
        }

        private static int nearer(int best, int distance, int same) {
            return distance > 0 && distance <= same && (best == 0 || distance < best) ? distance : best;
        }

        /** No END is like another sign, so what reaches from a byte or a gap of a document stays within it. */
        int longestMirror(int p) {
            int longest = 0;
            for (int middle = p; middle < index.endOf(index.owners[p]); middle++) {
                if (middle - gapReaches[middle] <= p) {
                    longest = Math.max(longest, 2 * (middle - p));
                }
                if (middle - reaches[middle] < p) {
                    longest = Math.max(longest, 2 * (middle - p) + 1);
                }
            }
            return longest;
        }

        int longestIn(int p, int d) {
            int longest = 0;
            int same = index.bytesFrom(p);
            for (int row = index.rows[p]; row > 0 && same > longest; row--) {
                same = Math.min(same, index.alikes[row]);
                if (index.owners[index.places[row - 1]] == d) {
                    longest = same;
                }
            }
            same = index.bytesFrom(p);
            for (int row = index.rows[p] + 1; row < index.size && same > longest; row++) {
                same = Math.min(same, index.alikes[row]);
                if (index.owners[index.places[row]] == d) {
                    longest = Math.max(longest, same);
                }
            }
            return longest;
        }
    }
}
