/** Promises 17 to 30: the pattern at hand, and what is near to it. */
final class PatternSentences {
    private static final int BAD = TextRows.BAD;
    private static final int NONE = TextRows.NONE;
    private static final int LEAST = Integer.MIN_VALUE;
    private static final int GREATEST = Integer.MAX_VALUE;
    private static final int[] NO_BYTES = {-1, NONE, 256, LEAST, GREATEST};

    private final Sentences s;

    PatternSentences(Sentences s) {
        this.s = s;
    }

    void run() {
        begin();
        grow();
        front();
        back();
        backRefused();
        pattern();
        patternByte();
        at();
        sorted();
        more();
        moreOfTheEmptyOne();
        ranked();
        rankedRefused();
        times();
        take();
        takeRefused();
        near();
        nearRefused();
        nearOf();
    }

    /** b0 a1 n2 a3 n4 a5 END6, END7, a8 n9 a10 END11; rows are the places 6 7 11 5 10 3 8 1 0 4 9 2. */
    private static TextRows banana(int rate) {
        return Books.of(rate, "banana", "", "ana");
    }

    private void begin() {
        s.test(17, "It is empty; no history.", () -> {
            TextRows x = banana(1);
            x.grow('a');
            x.front('n');
            x.begin();
            s.pattern(x, "", 0);
            s.due("pattern(0)", x.pattern(0), 0);
            s.due("pattern(1)", x.pattern(1), 0);
            s.due("back()", x.back(), BAD);
            x.take(0, 3);
            x.begin();
            s.pattern(x, "", 0);
        });
        s.test(17, "How many rows it has: n.", () -> {
            TextRows x = banana(1);
            s.due("begin() of the empty pattern", x.begin(), 12);
            x.grow('b');
            s.due("begin()", x.begin(), 12);
            s.due("pattern(2)", x.pattern(2), 12);
            s.due("begin() with one END alone", Books.of(1, "").begin(), 1);
        });
    }

    private void grow() {
        s.test(18, "A byte comes behind it: how many rows it has then;", () -> {
            TextRows x = banana(1);
            s.due("grow('a')", x.grow('a'), 5);
            s.due("grow('n')", x.grow('n'), 3);
            s.due("grow('a')", x.grow('a'), 3);
            s.due("grow('n')", x.grow('n'), 1);
            s.pattern(x, "anan", 4);
            TextRows y = Books.of(1, "\u0000\u00ff");
            s.due("grow(0)", y.grow(0), 1);
            s.due("grow(255)", y.grow(255), 1);
            s.pattern(y, "\u0000\u00ff", 2);
        });
        s.test(18, "0: that stands nowhere, and it stays as it was.", () -> {
            TextRows x = banana(1);
            s.unchanged(x, "a byte of no document, behind the empty one", () -> x.grow('c'), 0);
            x.grow('n');
            x.grow('a');
            s.unchanged(x, "a byte that does not come behind it", () -> x.grow('a'), 0);
            s.due("back()", x.back(), 1);
            TextRows y = Books.of(1, "ab", "ba");
            y.take(0, 2);
            s.unchanged(y, "a byte across an END", () -> y.grow('b'), 0);
            TextRows z = Books.of(1, "");
            s.unchanged(z, "no bytes at all", () -> z.grow(0), 0);
        });
        s.test(18, "BAD: no byte.", () -> {
            for (int c : NO_BYTES) {
                TextRows x = banana(1);
                x.grow('a');
                s.unchanged(x, "grow(" + c + ")", () -> x.grow(c), BAD);
            }
        });
    }

    private void front() {
        s.test(19, "A byte comes in front of it: likewise.", () -> {
            TextRows x = banana(1);
            s.due("front('n') of the empty one", x.front('n'), 3);
            s.due("front('a')", x.front('a'), 3);
            s.due("front('b')", x.front('b'), 1);
            s.pattern(x, "ban", 3);
            s.unchanged(x, "in front of a document's first place", () -> x.front('a'), 0);
            s.due("grow('a') behind it", x.grow('a'), 1);
            s.pattern(x, "bana", 4);
            TextRows y = Books.of(1, "\u0000\u00ff");
            s.due("front(255)", y.front(255), 1);
            s.due("front(0)", y.front(0), 1);
            s.pattern(y, "\u0000\u00ff", 2);
        });
        s.test(19, "likewise.", () -> {
            TextRows x = Books.of(1, "ab", "ba");
            s.unchanged(x, "0: a byte of no document", () -> x.front('c'), 0);
            x.take(3, 2);
            s.unchanged(x, "0: a byte across an END", () -> x.front('b'), 0);
            for (int c : NO_BYTES) {
                TextRows y = banana(1);
                y.front('a');
                s.unchanged(y, "BAD: front(" + c + ")", () -> y.front(c), BAD);
            }
        });
    }

    private void back() {
        s.test(20, "The last grow() or front() of its history is undone: its length.", () -> {
            TextRows x = banana(1);
            x.grow('n');
            x.front('a');
            x.grow('a');
            x.grow('n');
            s.due("back() of grow", x.back(), 3);
            s.pattern(x, "ana", 3);
            s.due("its rows", x.pattern(2), 3);
            s.due("back() of grow", x.back(), 2);
            s.pattern(x, "an", 2);
            s.due("back() of front", x.back(), 1);
            s.pattern(x, "n", 1);
            s.due("its rows", x.pattern(2), 3);
            s.due("back() of the first one", x.back(), 0);
            s.pattern(x, "", 0);
            s.due("its rows", x.pattern(2), 12);
        });
        s.test(20, "The last grow() or front() of its history is undone: its length.", () -> {
            TextRows x = banana(1);
            x.take(2, 2);
            x.front('a');
            x.front('c');
            x.grow(-1);
            s.due("back() of what was done, not of what was refused", x.back(), 2);
            s.pattern(x, "na", 0);
        });
    }

    private void backRefused() {
        s.test(20, "BAD: there is none.", () -> {
            TextRows x = banana(1);
            s.unchanged(x, "back() behind build()", x::back, BAD);
            x.grow('a');
            x.back();
            s.unchanged(x, "back() once more than there were calls", x::back, BAD);
            x.take(0, 2);
            s.unchanged(x, "back() behind take()", x::back, BAD);
            TextRows y = banana(1);
            y.kth(3);
            s.unchanged(y, "back() behind kth()", y::back, BAD);
            y.grow('n');
            y.repeated(2);
            s.unchanged(y, "back() behind repeated()", y::back, BAD);
            y.maximal(0);
            s.unchanged(y, "back() behind maximal()", y::back, BAD);
        });
    }

    private void pattern() {
        s.test(21, "0 its length, 1 its first row, 2 how many rows, 3 how many calls its history has.", () -> {
            TextRows x = banana(1);
            int[][] due = {{0, 0, 12, 0}, {1, 3, 5, 1}, {2, 5, 3, 2}, {3, 11, 1, 3}};
            for (int length = 0; length < due.length; length++) {
                for (int what = 0; what <= 3; what++) {
                    s.due("pattern(" + what + ") of " + length + " bytes", x.pattern(what), due[length][what]);
                }
                s.holds("it grows", length == 3 || (length == 2 ? x.front('n') : x.grow("an".charAt(length))) > 0);
            }
            x.take(0, 6);
            s.due("pattern(0) of a whole document", x.pattern(0), 6);
            s.due("pattern(3) behind take()", x.pattern(3), 0);
        });
        s.test(21, "BAD: another number.", () -> {
            TextRows x = banana(1);
            x.grow('a');
            for (int what : Sentences.noneOf(4)) {
                s.due("pattern(" + what + ")", x.pattern(what), BAD);
            }
        });
    }

    private void patternByte() {
        s.test(22, "Its i-th byte.", () -> {
            TextRows x = Books.of(1, "\u0000b\u00ff");
            x.take(0, 3);
            s.due("patternByte(0)", x.patternByte(0), 0);
            s.due("patternByte(1)", x.patternByte(1), 'b');
            s.due("patternByte(2)", x.patternByte(2), 255);
            x.take(1, 1);
            s.due("patternByte(0) of another one", x.patternByte(0), 'b');
        });
        s.test(22, "BAD: none such.", () -> {
            TextRows x = banana(1);
            s.due("patternByte(0) of the empty one", x.patternByte(0), BAD);
            x.take(0, 2);
            for (int i : Sentences.noneOf(2)) {
                s.due("patternByte(" + i + ")", x.patternByte(i), BAD);
            }
        });
    }

    private void at() {
        s.test(23, "The place of its k-th row (by row), told in STEPS.", () -> {
            TextRows x = banana(4);
            x.grow('a');
            int[] places = {5, 10, 3, 8, 1};
            int[] steps = {1, 3, 6, 6, 7};
            for (int k = 0; k < places.length; k++) {
                s.due("at(" + k + ")", x.at(k), places[k]);
                s.due("count(3)", x.count(3), steps[k]);
            }
            x.begin();
            s.due("the first one of the empty one", x.at(0), 6);
            s.due("the last one of the empty one", x.at(11), 2);
            s.due("count(3)", x.count(3), 11);
        });
        s.test(23, "BAD: none such.", () -> {
            TextRows x = banana(64);
            for (int k : Sentences.noneOf(12)) {
                s.due("at(" + k + ") of the empty one", x.at(k), BAD);
            }
            x.grow('a');
            for (int k : Sentences.noneOf(5)) {
                s.due("at(" + k + ")", x.at(k), BAD);
            }
            s.due("count(3): no steps", x.count(3), 0);
        });
    }

    private void sorted() {
        s.test(24, "Its k-th place (by place).", () -> {
            TextRows x = banana(4);
            for (int p = 0; p < 12; p++) {
                s.due("sorted(" + p + ") of the empty one", x.sorted(p), p);
            }
            x.grow('a');
            int[] places = {1, 3, 5, 8, 10};
            for (int k = 0; k < places.length; k++) {
                s.due("sorted(" + k + ")", x.sorted(k), places[k]);
            }
            s.due("count(3): no steps", x.count(3), 0);
        });
        s.test(24, "BAD: none such.", () -> {
            TextRows x = banana(4);
            for (int k : Sentences.noneOf(12)) {
                s.due("sorted(" + k + ") of the empty one", x.sorted(k), BAD);
            }
            x.grow('a');
            for (int k : Sentences.noneOf(5)) {
                s.due("sorted(" + k + ")", x.sorted(k), BAD);
            }
        });
    }

    private void more() {
        String sentence = "The k-th byte (from the least on) that may come behind it (behind), or in front of it.";
        s.test(25, sentence, () -> {
            TextRows x = Books.of(1, "\u00ffa\u00ff", "\u0000a\u0000", "ma", "a", "zan");
            x.grow('a');
            int[] behind = {0, 'n', 255};
            int[] before = {0, 'm', 'z', 255};
            for (int k = 0; k < behind.length; k++) {
                s.due("more(true, " + k + ")", x.more(true, k), behind[k]);
            }
            for (int k = 0; k < before.length; k++) {
                s.due("more(false, " + k + ")", x.more(false, k), before[k]);
            }
        });
        s.test(25, "k = - 1: how many.", () -> {
            TextRows x = banana(1);
            x.grow('a');
            s.due("more(true, -1): each byte once, ENDs are none", x.more(true, -1), 1);
            s.due("more(false, -1): nothing in front is none", x.more(false, -1), 2);
            x.take(0, 6);
            s.due("more(true, -1) of a whole document", x.more(true, -1), 0);
            s.due("more(false, -1) of a whole document", x.more(false, -1), 0);
        });
        s.test(25, "BAD: none such.", () -> {
            TextRows x = banana(1);
            x.grow('a');
            for (int k : new int[] {-2, LEAST, GREATEST}) {
                s.due("more(true, " + k + ")", x.more(true, k), BAD);
                s.due("more(false, " + k + ")", x.more(false, k), BAD);
            }
            s.due("more(true, 1)", x.more(true, 1), BAD);
            s.due("more(false, 2)", x.more(false, 2), BAD);
            x.take(0, 6);
            s.due("more(true, 0) of a whole document", x.more(true, 0), BAD);
            s.due("more(false, 0) of a whole document", x.more(false, 0), BAD);
        });
    }

    private void moreOfTheEmptyOne() {
        s.test(25, "The k-th byte (from the least on)", () -> {
            TextRows x = banana(1);
            for (boolean behind : new boolean[] {true, false}) {
                s.due("more(" + behind + ", -1) of the empty one", x.more(behind, -1), 3);
                s.due("more(" + behind + ", 0) of the empty one", x.more(behind, 0), 'a');
                s.due("more(" + behind + ", 2) of the empty one", x.more(behind, 2), 'n');
                s.due("more(" + behind + ", 3) of the empty one", x.more(behind, 3), BAD);
                s.due("more(" + behind + ", -1) with no bytes", Books.of(1, "", "").more(behind, -1), 0);
            }
        });
    }

    private void ranked() {
        s.test(26, "The k-th of the documents that have it", () -> {
            TextRows x = Books.of(1, "b", "a", "", "aa", "ba");
            x.grow('a');
            int[] due = {3, 1, 4, BAD};
            for (int k = 0; k < due.length; k++) {
                s.due("ranked(" + k + ")", x.ranked(k), due[k]);
            }
        });
        s.test(26, "(the empty one: all)", () -> {
            TextRows x = Books.of(1, "", "ab", "", "a", "bb");
            int[] due = {1, 4, 3, 0, 2, BAD};
            for (int k = 0; k < due.length; k++) {
                s.due("ranked(" + k + ")", x.ranked(k), due[k]);
            }
            s.due("ranked(-1)", x.ranked(-1), 5);
        });
        s.test(26, "those first in which it stands at more places", () -> {
            TextRows x = Books.of(1, "a", "aaa", "aa", "xaxaxaxa");
            x.grow('a');
            int[] due = {3, 1, 2, 0};
            for (int k = 0; k < due.length; k++) {
                s.due("ranked(" + k + ")", x.ranked(k), due[k]);
            }
            x.grow('a');
            s.due("places may overlap", x.ranked(0), 1);
        });
        s.test(26, "then the lesser.", () -> {
            String[] documents = new String[40];
            java.util.Arrays.fill(documents, "a");
            TextRows x = Books.of(1, documents);
            x.grow('a');
            for (int k = 0; k < 40; k++) {
                s.due("ranked(" + k + ") of documents alike", x.ranked(k), k);
            }
            s.due("ranked(40)", x.ranked(40), BAD);
        });
    }

    private void rankedRefused() {
        s.test(26, "k = - 1: how many.", () -> {
            TextRows x = Books.of(1, "b", "a", "", "aa", "ba");
            s.due("ranked(-1) of the empty one", x.ranked(-1), 5);
            x.grow('a');
            s.due("ranked(-1)", x.ranked(-1), 3);
            x.grow('a');
            s.due("ranked(-1)", x.ranked(-1), 1);
        });
        s.test(26, "BAD: none such.", () -> {
            TextRows x = Books.of(1, "b", "a", "", "aa", "ba");
            x.grow('a');
            for (int k : new int[] {-2, 3, 4, 5, LEAST, GREATEST}) {
                s.due("ranked(" + k + ")", x.ranked(k), BAD);
            }
        });
    }

    private void times() {
        s.test(27, "At how many places it stands in a document.", () -> {
            TextRows x = Books.of(1, "b", "aaa", "", "aab");
            int[] empty = {2, 4, 1, 4};
            int[] a = {0, 3, 0, 2};
            int[] aa = {0, 2, 0, 1};
            for (int d = 0; d < 4; d++) {
                s.due("times(" + d + ") of the empty one, with the END", x.times(d), empty[d]);
            }
            x.grow('a');
            for (int d = 0; d < 4; d++) {
                s.due("times(" + d + ") of a", x.times(d), a[d]);
            }
            x.grow('a');
            for (int d = 0; d < 4; d++) {
                s.due("times(" + d + ") of aa", x.times(d), aa[d]);
            }
        });
        s.test(27, "BAD: none such.", () -> {
            TextRows x = Books.of(1, "b", "aaa", "", "aab");
            for (int d : Sentences.noneOf(4)) {
                s.due("times(" + d + ")", x.times(d), BAD);
            }
        });
    }

    private void take() {
        s.test(28, "It becomes the substring of so many bytes at a place: how many rows; no history.", () -> {
            TextRows x = banana(1);
            x.grow('b');
            s.due("take(3, 3)", x.take(3, 3), 3);
            s.pattern(x, "ana", 0);
            s.due("its first row", x.pattern(1), 5);
            s.due("take(0, 6): a whole document", x.take(0, 6), 1);
            s.pattern(x, "banana", 0);
            s.due("take(10, 1): the last byte", x.take(10, 1), 5);
            s.pattern(x, "a", 0);
            s.due("back()", x.back(), BAD);
            s.due("grow('n') goes on from there", x.grow('n'), 3);
            s.pattern(x, "an", 1);
        });
    }

    private void takeRefused() {
        s.test(28, "BAD: none such", () -> {
            int[][] wrong = {{-1, 1}, {12, 1}, {LEAST, 1}, {GREATEST, 1}, {0, 7}, {5, 2}, {8, 4}, {0, GREATEST},
                {11, GREATEST}, {6, 1}, {7, 1}, {11, 1}};
            for (int[] one : wrong) {
                TextRows x = banana(1);
                x.grow('b');
                s.unchanged(x, "take(" + one[0] + ", " + one[1] + ")", () -> x.take(one[0], one[1]), BAD);
            }
        });
        s.test(28, "length is not 1 or more.", () -> {
            for (int length : new int[] {0, -1, LEAST}) {
                TextRows x = banana(1);
                x.grow('b');
                s.unchanged(x, "take(0, " + length + ")", () -> x.take(0, length), BAD);
                s.unchanged(x, "take(6, " + length + ") at an END", () -> x.take(6, length), BAD);
            }
        });
    }

    private void near() {
        s.test(29, "How many places there are at which as many bytes as the pattern has stand in one document", () -> {
            TextRows x = Books.of(1, "abcd", "abc", "ab", "");
            x.take(0, 3);
            s.due("near(3): all places with three bytes up to the END", x.near(3), 3);
            x.take(0, 4);
            s.due("near(3): the only place with four", x.near(3), 1);
            x.take(0, 1);
            s.due("near(1): all places with a byte, no ENDs", x.near(1), 9);
        });
        s.test(29, "at most m (0 .. 3) of them other ones than the pattern's;", () -> {
            TextRows x = Books.of(1, "aaaa", "aaab", "aabb", "abbb", "bbbb");
            x.take(0, 4);
            for (int m = 0; m <= 3; m++) {
                s.due("near(" + m + ")", x.near(m), m + 1);
                s.due("the last one's bytes that differ", x.nearOf(m, 1), m);
                s.due("the last one's place", x.nearOf(m, 0), 5 * m);
            }
        });
        s.test(29, "these are NEAR then.", () -> {
            TextRows x = Books.of(1, "abcb");
            x.take(0, 1);
            x.near(3);
            x.take(1, 1);
            s.due("near(0)", x.near(0), 2);
            s.due("nearOf(0, 0)", x.nearOf(0, 0), 1);
            s.due("nearOf(1, 0)", x.nearOf(1, 0), 3);
            s.due("nearOf(2, 0): what was near before is so no more", x.nearOf(2, 0), BAD);
            s.pattern(x, "b", 0);
        });
    }

    private void nearRefused() {
        s.test(29, "BAD, changing nothing: another m", () -> {
            for (int m : new int[] {-1, 4, LEAST, GREATEST}) {
                TextRows x = Books.of(1, "abcb");
                x.grow('b');
                x.near(0);
                s.unchanged(x, "near(" + m + ")", () -> x.near(m), BAD);
            }
        });
        s.test(29, "the pattern has none", () -> {
            TextRows x = Books.of(1, "abcb");
            s.unchanged(x, "near(3) of the empty one", () -> x.near(3), BAD);
            x.grow('b');
            x.near(0);
            x.begin();
            s.unchanged(x, "near(0) of the empty one, with something near", () -> x.near(0), BAD);
        });
        s.test(29, "or more than 40 bytes.", () -> {
            TextRows x = Books.of(1, "a".repeat(41) + "b");
            x.take(0, 40);
            s.due("near(0) of 40 bytes", x.near(0), 2);
            s.due("near(1) of 40 bytes", x.near(1), 3);
            x.grow('a');
            s.unchanged(x, "near(1) of 41 bytes", () -> x.near(1), BAD);
            x.take(0, 42);
            s.unchanged(x, "near(0) of 42 bytes", () -> x.near(0), BAD);
        });
    }

    private void nearOf() {
        String sentence = "Of what is NEAR (whatever the pattern has become) the k-th one, by place: 0 its place, "
                + "1 how many bytes differ.";
        s.test(30, sentence, () -> {
            TextRows x = Books.of(1, "abcabdaxx", "abd", "xyz", "ab");
            x.take(0, 3);
            s.due("near(2)", x.near(2), 4);
            x.take(7, 2);
            x.begin();
            int[] places = {0, 3, 6, 10};
            int[] differ = {0, 1, 2, 1};
            for (int k = 0; k < places.length; k++) {
                s.due("nearOf(" + k + ", 0)", x.nearOf(k, 0), places[k]);
                s.due("nearOf(" + k + ", 1)", x.nearOf(k, 1), differ[k]);
            }
        });
        s.test(30, "BAD: none such.", () -> {
            TextRows x = Books.of(1, "abcb");
            s.due("nearOf(0, 0) with nothing near", x.nearOf(0, 0), BAD);
            x.grow('b');
            x.near(0);
            for (int k : Sentences.noneOf(2)) {
                s.due("nearOf(" + k + ", 0)", x.nearOf(k, 0), BAD);
                s.due("nearOf(" + k + ", 1)", x.nearOf(k, 1), BAD);
            }
            for (int what : Sentences.noneOf(2)) {
                s.due("nearOf(0, " + what + ")", x.nearOf(0, what), BAD);
            }
        });
    }
}
