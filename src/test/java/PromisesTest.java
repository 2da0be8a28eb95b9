/** Each promise of the document by its number: ordinary inputs, the edges it names, and wrong inputs. */
public final class PromisesTest {
    private static final int BAD = TextRows.BAD;
    private static final int NONE = TextRows.NONE;
    private static final Check CHECK = new Check("PromisesTest");

    private PromisesTest() {
    }

    public static void main(String[] arguments) {
        theBook();
        rowsAndPlaces();
        thePattern();
        queries();
        whatRepeats();
        CHECK.finish();
    }

    private static void due(int promise, String what, int got, int want) {
        CHECK.due("promise " + promise + ", " + what, got, want);
    }

    private static void pattern(int promise, TextRows x, String want, int history) {
        CHECK.holds("promise " + promise + ", pattern " + want + " (is " + Books.pattern(x) + ")",
                Books.pattern(x).equals(want));
        due(promise, "history", x.pattern(3), history);
    }

    private static void theBook() {
        newObject();
        feedAndEnd();
        cut();
        clear();
        build();
    }

    private static void newObject() {
        TextRows x = new TextRows();
        due(1, "BAD", TextRows.BAD, -1);
        due(1, "NONE", TextRows.NONE, -2);
        due(1, "documents", x.count(8), 0);
        due(1, "bytes at hand", x.count(9), 0);
        due(1, "signs", x.count(10), 0);
        for (int what = 0; what < 8; what++) {
            due(1, "count of no index", x.count(what), BAD);
        }
        noIndex(x);
    }

    /** All that needs an index is BAD. */
    private static void noIndex(TextRows x) {
        int[] answers = {x.place(0), x.row(0), x.shared(0), x.before(0), x.step(0), x.rank(0, 0), x.select(0, 0),
            x.byteAt(0), x.document(0, 0), x.document(0, 1), x.document(0, 2), x.alike(0, 0), x.begin(), x.grow(0),
            x.front(0), x.back(), x.pattern(0), x.pattern(2), x.patternByte(0), x.at(0), x.sorted(0),
            x.more(true, -1), x.more(false, 0), x.ranked(-1), x.times(0), x.take(0, 1), x.near(0), x.nearOf(0, 0),
            x.answer(), x.answered(0, 0), x.different(0), x.different(1), x.kth(0), x.order(), x.repeated(2),
            x.common(1), x.oftenest(1), x.unique(0), x.maximal(-1), x.absent(2), x.factor(0, -1, 0), x.word(0, -1),
            x.square(0), x.mirror(0), x.match(0, 0), x.unwound(0, 0)};
        for (int i = 0; i < answers.length; i++) {
            due(1, "call " + i + " without an index", answers[i], BAD);
        }
    }

    private static void feedAndEnd() {
        TextRows x = new TextRows();
        due(3, "end of nothing", x.end(0), BAD);
        due(2, "feed", x.feed(0x01020304, 0x80FF0005, 0, -1, 0x7F7F7F7F), 20);
        due(3, "end(-1)", x.end(-1), BAD);
        due(3, "end(21)", x.end(21), BAD);
        due(3, "end(20)", x.end(20), 20);
        due(3, "end(17)", x.end(17), 17);
        due(3, "end of fewer than twenty", x.end(17), BAD);
        due(3, "nothing was changed", x.count(9), 17);
        x.cut();
        x.build(1);
        int[] bytes = {1, 2, 3, 4, 0x80, 0xFF, 0, 5, 0, 0, 0, 0, 255, 255, 255, 255, 127, NONE};
        for (int p = 0; p < bytes.length; p++) {
            due(2, "byte " + p, x.byteAt(p), bytes[p]);
        }
        for (int i = 1; i <= 150; i++) {
            due(2, "feed", x.feed(i, i, i, i, i), 20 * i);
        }
        due(2, "the 3,001st byte", x.feed(0, 0, 0, 0, 0), BAD);
        due(2, "nothing was changed", x.count(9), 3000);
        due(4, "a document that does not fit", x.cut(), BAD);
        due(4, "nothing was changed", x.count(9), 3000);
        due(3, "end(0)", x.end(0), 2980);
        due(3, "end(0) again", x.end(0), 2960);
        due(2, "feed", x.feed(0, 0, 0, 0, 0), 2980);
    }

    private static void cut() {
        TextRows x = new TextRows();
        Books.feed(x, "a".repeat(2999));
        due(4, "3,000 places", x.cut(), 0);
        due(4, "one more", x.cut(), BAD);
        due(4, "at hand", x.count(9), 0);
        due(4, "build", x.build(64), 3000);
        x = new TextRows();
        Books.feed(x, "a".repeat(1499));
        x.cut();
        Books.feed(x, "a".repeat(1500));
        due(4, "3,001 places", x.cut(), BAD);
        due(4, "nothing was changed", x.count(9), 1500);
        due(4, "nothing was changed", x.count(8), 1);
        x = new TextRows();
        for (int d = 0; d < 40; d++) {
            due(4, "document", x.cut(), d);
        }
        due(4, "the 41st document", x.cut(), BAD);
        due(4, "documents", x.count(8), 40);
        due(4, "places", x.build(1), 40);
    }

    private static void clear() {
        TextRows x = Books.of(2, "ab", "", "c");
        Books.feed(x, "rest");
        x.ask('a');
        due(5, "clear", x.clear(), 3);
        due(5, "at hand", x.count(9), 0);
        due(5, "documents", x.count(8), 0);
        due(5, "the query stays", x.count(10), 1);
        due(5, "the index stays", x.count(0), 6);
        due(5, "its bytes stay", x.byteAt(1), 'b');
        due(5, "clear again", x.clear(), 0);
        due(6, "build of no documents", x.build(1), BAD);
        due(5, "the next document", x.cut(), 0);
        due(5, "the index still stays", x.count(1), 3);
        due(6, "build", x.build(1), 1);
        due(6, "documents", x.count(1), 1);
    }

    private static void build() {
        TextRows x = Books.of(3, "abab");
        x.grow('a');
        x.near(0);
        x.place(0);
        Books.answer(x, "a");
        x.ask('b');
        due(6, "build(0)", x.build(0), BAD);
        due(6, "build(65)", x.build(65), BAD);
        due(6, "build(-1)", x.build(-1), BAD);
        due(6, "the pattern stays", x.pattern(0), 1);
        due(6, "what is near stays", x.nearOf(1, 0), 2);
        due(6, "the answer stays", x.answered(1, 0), 2);
        due(6, "the rate stays", x.count(2), 3);
        due(6, "steps stay", x.count(3), 1);
        Books.write(x, "c");
        Books.feed(x, "not ended");
        due(6, "the index does not grow by itself", x.count(0), 5);
        due(6, "build(64)", x.build(64), 7);
        due(6, "rate", x.count(2), 64);
        due(6, "the pattern is empty", x.pattern(0), 0);
        due(6, "no history", x.back(), BAD);
        due(6, "nothing near", x.nearOf(0, 0), BAD);
        due(6, "no answer", x.answered(0, 0), BAD);
        due(6, "no steps", x.count(3), 0);
        due(6, "the query stays", x.count(10), 1);
        due(6, "the book stays", x.count(8), 2);
    }

    private static void rowsAndPlaces() {
        TextRows x = Books.of(2, "banana", "", "ana");
        // places: b0 a1 n2 a3 n4 a5 END6, END7, a8 n9 a10 END11
        int[] places = {6, 7, 11, 5, 10, 3, 8, 1, 0, 4, 9, 2};
        int[] shared = {0, 0, 0, 0, 1, 1, 3, 3, 0, 0, 2, 2};
        int[] before = {'a', NONE, 'a', 'n', 'n', 'n', NONE, 'b', NONE, 'a', 'a', 'a'};
        int[] step = {3, NONE, 4, 9, 10, 11, NONE, 8, NONE, 5, 6, 7};
        int steps = 0;
        for (int i = 0; i < places.length; i++) {
            due(7, "place(" + i + ")", x.place(i), places[i]);
            steps += places[i] < 7 ? places[i] % 2 : places[i] < 8 ? 0 : (places[i] - 8) % 2;
            due(7, "steps", x.count(3), steps);
            due(8, "row(" + places[i] + ")", x.row(places[i]), i);
            due(9, "shared(" + i + ")", x.shared(i), shared[i]);
            due(10, "before(" + i + ")", x.before(i), before[i]);
            due(11, "step(" + i + ")", x.step(i), step[i]);
        }
        for (int wrong : new int[] {-1, 12, Integer.MAX_VALUE, Integer.MIN_VALUE}) {
            due(7, "place", x.place(wrong), BAD);
            due(8, "row", x.row(wrong), BAD);
            due(9, "shared", x.shared(wrong), BAD);
            due(10, "before", x.before(wrong), BAD);
            due(11, "step", x.step(wrong), BAD);
            due(14, "byteAt", x.byteAt(wrong), BAD);
            due(16, "alike", x.alike(wrong, 0), BAD);
            due(16, "alike", x.alike(0, wrong), BAD);
        }
        due(7, "wrong rows make no steps", x.count(3), steps);
        due(7, "no other call makes steps", x.count(3) + x.row(3) * 0 + x.sorted(3) * 0, x.count(3));
        rankAndSelect(x, before);
        bytesAndDocuments(x);
    }

    private static void rankAndSelect(TextRows x, int[] before) {
        int seen = 0;
        for (int i = 0; i < before.length; i++) {
            due(12, "rank", x.rank('a', i), seen);
            if (before[i] == 'a') {
                due(13, "select", x.select('a', seen), i);
                seen++;
            }
        }
        due(12, "rank of all", x.rank('a', 12), 5);
        due(12, "rank of what is not there", x.rank('c', 12), 0);
        due(12, "rank(256)", x.rank(256, 0), BAD);
        due(12, "rank(NONE)", x.rank(NONE, 5), BAD);
        due(12, "rank up to 13", x.rank('a', 13), BAD);
        due(12, "rank up to -1", x.rank('a', -1), BAD);
        due(13, "select one too many", x.select('a', 5), BAD);
        due(13, "select -1", x.select('a', -1), BAD);
        due(13, "select of what is not there", x.select('c', 0), BAD);
        due(13, "select of no byte", x.select(NONE, 0), BAD);
        due(13, "select of no byte", x.select(256, 0), BAD);
        TextRows y = Books.of(1, "\u00ff\u0000");
        due(12, "rank of 255", y.rank(255, 3), 1);
        due(13, "select of 0", y.select(0, 0), 0);
    }

    private static void bytesAndDocuments(TextRows x) {
        due(14, "byteAt", x.byteAt(0), 'b');
        due(14, "byteAt of an END", x.byteAt(6), NONE);
        due(14, "byteAt of an END without bytes", x.byteAt(7), NONE);
        due(14, "byteAt of the last END", x.byteAt(11), NONE);
        int[] firsts = {0, 7, 8};
        int[] lengths = {6, 0, 3};
        for (int d = 0; d < 3; d++) {
            due(15, "first place", x.document(d, 0), firsts[d]);
            due(15, "bytes", x.document(d, 1), lengths[d]);
        }
        due(15, "of a place", x.document(6, 2), 0);
        due(15, "of a place", x.document(7, 2), 1);
        due(15, "of a place", x.document(8, 2), 2);
        due(15, "of no place", x.document(12, 2), BAD);
        due(15, "of no document", x.document(3, 0), BAD);
        due(15, "of no document", x.document(-1, 1), BAD);
        due(15, "of no place", x.document(-1, 2), BAD);
        due(15, "another number", x.document(0, 3), BAD);
        due(15, "another number", x.document(0, -1), BAD);
        due(16, "alike", x.alike(1, 3), 3);
        due(16, "alike across documents", x.alike(1, 8), 3);
        due(16, "alike", x.alike(0, 1), 0);
        due(16, "with itself", x.alike(1, 1), 5);
        due(16, "an END with itself", x.alike(6, 6), 0);
        due(16, "two ENDs", x.alike(6, 7), 0);
        due(16, "whole documents", Books.of(1, "abc", "abc").alike(0, 4), 3);
    }

    private static void thePattern() {
        growing();
        tellingThePattern();
        documentsOfThePattern();
        taking();
        near();
    }

    private static void growing() {
        TextRows x = Books.of(4, "banana", "", "ana");
        due(17, "begin", x.begin(), 12);
        due(18, "grow", x.grow('n'), 3);
        due(18, "grow", x.grow('a'), 3);
        due(18, "grow to what is not there", x.grow('a'), 0);
        due(18, "grow(256)", x.grow(256), BAD);
        due(18, "grow(-1)", x.grow(-1), BAD);
        pattern(18, x, "na", 2);
        due(19, "front", x.front('a'), 3);
        due(19, "front", x.front('b'), 1);
        pattern(19, x, "bana", 4);
        due(19, "front of a first place", x.front('b'), 0);
        due(19, "front(256)", x.front(256), BAD);
        due(19, "front(-2)", x.front(NONE), BAD);
        pattern(19, x, "bana", 4);
        due(18, "grow behind front", x.grow('n'), 1);
        due(20, "back", x.back(), 4);
        pattern(20, x, "bana", 4);
        due(20, "back", x.back(), 3);
        pattern(20, x, "ana", 3);
        due(20, "rows", x.pattern(2), 3);
        due(20, "back", x.back(), 2);
        pattern(20, x, "na", 2);
        due(20, "back", x.back(), 1);
        due(20, "back", x.back(), 0);
        due(20, "rows of the empty one", x.pattern(2), 12);
        due(20, "back of no history", x.back(), BAD);
        due(19, "front of the empty one", x.front('n'), 3);
        due(19, "back of it", x.back(), 0);
        x.grow('b');
        due(17, "begin", x.begin(), 12);
        pattern(17, x, "", 0);
        due(17, "no history", x.back(), BAD);
        TextRows y = Books.of(1, "ab", "ba");
        y.grow('b');
        due(18, "no pattern goes across an END", y.grow('b'), 0);
        due(19, "nor to the front", y.front('b'), 0);
    }

    private static void tellingThePattern() {
        TextRows x = Books.of(2, "banana", "", "ana");
        x.grow('a');
        x.grow('n');
        due(21, "length", x.pattern(0), 2);
        due(21, "first row", x.pattern(1), 5);
        due(21, "rows", x.pattern(2), 3);
        due(21, "history", x.pattern(3), 2);
        due(21, "another number", x.pattern(4), BAD);
        due(21, "another number", x.pattern(-1), BAD);
        due(22, "byte", x.patternByte(0), 'a');
        due(22, "byte", x.patternByte(1), 'n');
        due(22, "no byte", x.patternByte(2), BAD);
        due(22, "no byte", x.patternByte(-1), BAD);
        due(23, "at", x.at(0), 3);
        due(23, "at", x.at(1), 8);
        due(23, "at", x.at(2), 1);
        due(23, "steps of 3, 8 and 1", x.count(3), 2);
        due(23, "at", x.at(3), BAD);
        due(23, "at", x.at(-1), BAD);
        due(24, "sorted", x.sorted(0), 1);
        due(24, "sorted", x.sorted(1), 3);
        due(24, "sorted", x.sorted(2), 8);
        due(24, "sorted", x.sorted(3), BAD);
        due(24, "sorted", x.sorted(-1), BAD);
        due(24, "sorted makes no steps", x.count(3), 2);
        x.begin();
        due(24, "sorted of the empty one", x.sorted(11), 11);
        due(23, "at of the empty one", x.at(0), 6);
        x.grow('a');
        due(25, "how many behind", x.more(true, -1), 1);
        due(25, "behind", x.more(true, 0), 'n');
        due(25, "behind", x.more(true, 1), BAD);
        due(25, "how many in front", x.more(false, -1), 2);
        due(25, "in front", x.more(false, 0), 'b');
        due(25, "in front", x.more(false, 1), 'n');
        due(25, "in front", x.more(false, 2), BAD);
        due(25, "another number", x.more(false, -2), BAD);
        x.begin();
        due(25, "behind the empty one", x.more(true, -1), 3);
        due(25, "in front of the empty one", x.more(false, 2), 'n');
    }

    private static void documentsOfThePattern() {
        TextRows x = Books.of(1, "ab", "aaa", "", "b", "aab", "aab");
        x.grow('a');
        int[] ranked = {1, 4, 5, 0};
        for (int k = 0; k < ranked.length; k++) {
            due(26, "ranked", x.ranked(k), ranked[k]);
        }
        due(26, "how many", x.ranked(-1), 4);
        due(26, "ranked", x.ranked(4), BAD);
        due(26, "ranked", x.ranked(-2), BAD);
        int[] times = {1, 3, 0, 0, 2, 2};
        for (int d = 0; d < times.length; d++) {
            due(27, "times", x.times(d), times[d]);
        }
        due(27, "times", x.times(6), BAD);
        due(27, "times", x.times(-1), BAD);
        x.begin();
        due(26, "the empty one is in all", x.ranked(-1), 6);
        due(26, "the empty one", x.ranked(0), 1);
        due(26, "the empty one", x.ranked(5), 2);
        due(27, "the empty one", x.times(1), 4);
        due(27, "the empty one, of nothing", x.times(2), 1);
    }

    private static void taking() {
        TextRows x = Books.of(1, "banana", "", "ana");
        x.grow('b');
        due(28, "no place", x.take(12, 1), BAD);
        due(28, "no place", x.take(-1, 1), BAD);
        due(28, "length 0", x.take(0, 0), BAD);
        due(28, "length -1", x.take(0, -1), BAD);
        due(28, "beyond the END", x.take(0, 7), BAD);
        due(28, "beyond the END", x.take(5, 2), BAD);
        due(28, "from far beyond", x.take(1, Integer.MAX_VALUE), BAD);
        due(28, "of an END", x.take(6, 1), BAD);
        pattern(28, x, "b", 1);
        due(28, "take", x.take(3, 3), 3);
        pattern(28, x, "ana", 0);
        due(28, "no history", x.back(), BAD);
        due(28, "all of a document", x.take(0, 6), 1);
        due(28, "and on from there", x.take(8, 1), 5);
        due(28, "and on from there", x.grow('n'), 3);
        due(28, "back to it", x.back(), 1);
        due(28, "no further", x.back(), BAD);
    }

    private static void near() {
        TextRows x = Books.of(1, "abcabdaxx", "abd", "ab");
        due(29, "of the empty pattern", x.near(0), BAD);
        x.take(0, 3);
        due(29, "m = 0", x.near(0), 1);
        due(30, "place", x.nearOf(0, 0), 0);
        due(30, "differ", x.nearOf(0, 1), 0);
        due(29, "m = -1", x.near(-1), BAD);
        due(29, "m = 4", x.near(4), BAD);
        due(30, "nothing was changed", x.nearOf(0, 0), 0);
        due(29, "m = 1", x.near(1), 3);
        x.begin();
        int[] places = {0, 3, 10};
        int[] differ = {0, 1, 1};
        for (int k = 0; k < 3; k++) {
            due(30, "place", x.nearOf(k, 0), places[k]);
            due(30, "differ", x.nearOf(k, 1), differ[k]);
        }
        due(30, "none such", x.nearOf(3, 0), BAD);
        due(30, "none such", x.nearOf(-1, 0), BAD);
        due(30, "another number", x.nearOf(0, 2), BAD);
        due(30, "another number", x.nearOf(0, -1), BAD);
        x.take(0, 3);
        due(29, "m = 2", x.near(2), 4);
        due(30, "place", x.nearOf(2, 0), 6);
        due(30, "differ", x.nearOf(2, 1), 2);
        due(29, "m = 3: all places with three bytes", x.near(3), 8);
        TextRows y = Books.of(1, "a".repeat(41));
        y.take(0, 41);
        due(29, "41 bytes", y.near(3), BAD);
        y.take(0, 40);
        due(29, "40 bytes", y.near(3), 2);
    }

    private static void queries() {
        asking();
        answering();
        wrongQueries();
        greatQueries();
    }

    private static void asking() {
        TextRows x = new TextRows();
        due(31, "31", x.ask(31), BAD);
        due(31, "127", x.ask(127), BAD);
        due(31, "-1", x.ask(-1), BAD);
        due(31, "32", x.ask(32), 1);
        due(31, "126", x.ask(126), 2);
        due(32, "no index", x.answer(), BAD);
        due(32, "the query stays", x.count(10), 2);
        for (int i = 3; i <= 200; i++) {
            due(31, "ask", x.ask('a'), i);
        }
        due(31, "the 201st", x.ask('a'), BAD);
        due(31, "signs", x.count(10), 200);
        Books.write(x, "a");
        x.build(1);
        due(32, "too great", x.answer(), -1000);
        due(32, "it is empty then", x.count(10), 0);
        due(31, "and may come anew", x.ask('a'), 1);
    }

    private static void matches(TextRows x, String query, int... due) {
        due(32, query, Books.answer(x, query), due.length / 3);
        for (int k = 0; k < due.length / 3; k++) {
            for (int what = 0; what < 3; what++) {
                due(33, query + " " + k + " " + what, x.answered(k, what), due[3 * k + what]);
            }
        }
        due(33, query, x.answered(due.length / 3, 0), BAD);
    }

    private static void answering() {
        TextRows x = Books.of(1, "abcab", "", "cc.\u00ff");
        due(33, "no answer", x.answered(0, 0), BAD);
        matches(x, "");
        matches(x, "x");
        matches(x, "ab", 0, 2, 2, 3, 2, 2);
        matches(x, "ab|b", 0, 2, 2, 1, 1, 1, 3, 2, 2, 4, 1, 1);
        matches(x, "c*", 2, 1, 1, 7, 1, 2, 8, 1, 1);
        matches(x, "c+", 2, 1, 1, 7, 1, 2, 8, 1, 1);
        matches(x, "c?c", 2, 1, 1, 7, 1, 2, 8, 1, 1);
        matches(x, "c{2}", 7, 2, 2);
        matches(x, "[a-c]{2,}", 0, 2, 5, 1, 2, 4, 2, 2, 3, 3, 2, 2, 7, 2, 2);
        matches(x, "[a-c]{2,3}", 0, 2, 3, 1, 2, 3, 2, 2, 3, 3, 2, 2, 7, 2, 2);
        matches(x, "a{0}b{1}", 1, 1, 1, 4, 1, 1);
        matches(x, "\\.", 9, 1, 1);
        matches(x, "[.]", 9, 1, 1);
        matches(x, "c.", 2, 2, 2, 7, 2, 2, 8, 2, 2);
        matches(x, "[^a-c]", 9, 1, 1, 10, 1, 1);
        matches(x, "..\\..", 7, 4, 4);
        matches(x, "(ab|c)+", 0, 2, 5, 2, 1, 3, 3, 2, 2, 7, 1, 2, 8, 1, 1);
        matches(x, "(|a|b(|c))(()|ab)*b?", 0, 1, 2, 1, 1, 4, 3, 1, 2, 4, 1, 1);
        matches(x, "(((a*)*)+b)", 0, 2, 2, 1, 1, 1, 3, 2, 2, 4, 1, 1);
        due(33, "another number", x.answered(0, 3), BAD);
        due(33, "another number", x.answered(0, -1), BAD);
        due(33, "another place", x.answered(-1, 0), BAD);
        due(32, "a wrong one", Books.answer(x, "ab)"), -4);
        due(33, "the last answer stays", x.answered(0, 2), 2);
        due(32, "one that is too great", Books.answer(x, "(a{99}){2}"), -1000);
        due(33, "the last answer stays", x.answered(3, 0), 4);
        TextRows y = Books.of(1, "]^-\\[a");
        matches(y, "[\\]\\-\\\\\\[]+", 0, 1, 1, 2, 1, 3, 3, 1, 2, 4, 1, 1);
        matches(y, "[\\^a]", 1, 1, 1, 5, 1, 1);
        matches(y, "[^^a]", 0, 1, 1, 2, 1, 1, 3, 1, 1, 4, 1, 1);
        matches(y, "[a^]", 1, 1, 1, 5, 1, 1);
        matches(y, "^-", 1, 2, 2);
        matches(y, "[\\a-\\a]", 5, 1, 1);
    }

    private static void wrongQueries() {
        TextRows x = Books.of(1, "ab");
        String[] queries = {")", "a)", "(", "(a", "((a)", "]", "}", "{", "a{", "*", "+a", "?", "a|*", "(*)", "a**",
            "a*+", "a?{2}", "a{2}{3}", "a{2}*", "\\", "a\\", "[", "[]", "[^", "[^]", "[a", "[-a]", "[a-]", "[a--]",
            "[a-b-c]", "[b-a]", "[b-\\a]", "[\\b-a]", "[a-", "[a-\\", "[\\", "[[]", "[a[]", "[^-]", "a{}", "a{x}",
            "a{,1}", "a{1", "a{1x}", "a{123}", "a{1,", "a{1,x}", "a{1,234}", "a{3,2}", "a{13,12}", "a{13,1}",
            "a{1,2", "a{1,2,}", "a{1,2}}", "a|b)", "()(", "[a]]", "a{1,}{"};
        int[] places = {0, 1, 1, 2, 4, 0, 0, 0, 2, 0, 0, 0, 2, 1, 2,
            2, 2, 4, 4, 1, 2, 1, 1, 2, 2, 2, 1, 3, 3,
            4, 3, 3, 4, 3, 4, 2, 1, 2, 2, 2, 2,
            2, 3, 3, 4, 4, 4, 6, 4, 5, 5,
            5, 5, 6, 3, 3, 3, 5};
        for (int i = 0; i < queries.length; i++) {
            due(32, queries[i], Books.answer(x, queries[i]), -2 - places[i]);
            due(32, "it is empty then", x.count(10), 0);
        }
        due(32, "20 open", Books.answer(x, "(".repeat(20) + "a" + ")".repeat(20)), 1);
        due(32, "21 open", Books.answer(x, "(".repeat(21) + "a" + ")".repeat(21)), -22);
        due(32, "20 open at a time", Books.answer(x, "(()" + "(".repeat(19) + "a" + ")".repeat(20)), 1);
        due(32, "200 signs, all open", Books.answer(x, "()".repeat(99) + "(a"), -202);
        due(32, "a wrong one is not measured", Books.answer(x, "a{99}b{99}]"), -12);
    }

    private static void greatQueries() {
        TextRows x = Books.of(1, "a".repeat(130));
        due(32, "120", Books.answer(x, "a{60}a{60}"), 11);
        due(33, "120", x.answered(0, 1), 120);
        due(32, "121", Books.answer(x, "a{60}a{61}"), -1000);
        due(32, "120 by brackets", Books.answer(x, "(aa|b{58}){2}"), 127);
        due(32, "122 by brackets", Books.answer(x, "(aa|b{59}){2}"), -1000);
        due(32, "the greater number", Books.answer(x, "a{1,99}a{0,21}"), 130);
        due(33, "the greater number", x.answered(0, 2), 120);
        due(32, "the greater number", Books.answer(x, "a{1,99}a{0,22}"), -1000);
        due(32, "at least once", Books.answer(x, "(a{60}){0,}(a{60}){0,}"), 71);
        due(32, "at least once", Books.answer(x, "(a{60}){0,}(a{60}){0,}a"), -1000);
        due(32, "stars", Books.answer(x, "(a*a+a?){40}"), 91);
        due(32, "stars", Books.answer(x, "(a*a+a?){41}"), -1000);
        due(32, "nothing, very often", Books.answer(x, "(((()" + "{99})".repeat(3) + "{99}a{99}"), 32);
        due(32, "never, much", Books.answer(x, "(((a{99}){99}){99}){0}b{0,0}a"), 130);
    }

    private static void whatRepeats() {
        substringsInOrder();
        longest();
        uniqueAndMaximal();
        absent();
        factorsAndWords();
        atOnePlace();
        counts();
    }

    private static void substringsInOrder() {
        TextRows x = Books.of(1, "abab", "ba");
        // a ab aba abab b ba bab
        String[] all = {"a", "ab", "aba", "abab", "b", "ba", "bab"};
        due(34, "all", x.different(0), 7);
        int[] byLength = {7, 2, 2, 2, 1, 0};
        for (int length = 0; length < 6; length++) {
            due(34, "of length " + length, x.different(length), byLength[length]);
        }
        due(34, "of any length", x.different(Integer.MAX_VALUE), 0);
        due(34, "below 0", x.different(-1), BAD);
        due(36, "of the empty one", x.order(), 0);
        for (int k = 0; k < all.length; k++) {
            x.grow('a');
            due(35, "kth", x.kth(k), all[k].length());
            pattern(35, x, all[k], 0);
            due(36, "order", x.order(), k);
        }
        due(35, "one too many", x.kth(7), BAD);
        due(35, "-1", x.kth(-1), BAD);
        pattern(35, x, "bab", 0);
        x.take(4, 0);
        x.begin();
        x.grow('b');
        x.grow('a');
        due(36, "order of a grown one", x.order(), 5);
        due(36, "it keeps its history", x.pattern(3), 2);
        TextRows y = Books.of(1, "\u00ffa", "\u0080");
        y.kth(2);
        pattern(35, y, "\u00ff", 0);
        due(36, "bytes have no signs", y.order(), 2);
    }

    private static void longest() {
        TextRows x = Books.of(1, "abcabc", "xbcx", "cab");
        x.grow('x');
        due(37, "q = 1", x.repeated(1), BAD);
        due(37, "q = 0", x.repeated(0), BAD);
        due(37, "more than there are", x.repeated(5), 0);
        pattern(37, x, "x", 1);
        due(37, "twice", x.repeated(2), 3);
        pattern(37, x, "abc", 0);
        due(37, "three times", x.repeated(3), 2);
        pattern(37, x, "ab", 0);
        due(37, "four times", x.repeated(4), 1);
        pattern(37, x, "b", 0);
        due(37, "any times", x.repeated(Integer.MAX_VALUE), 0);
        due(38, "q = 0", x.common(0), BAD);
        due(38, "q = -1", x.common(-1), BAD);
        due(38, "in four", x.common(4), 0);
        pattern(38, x, "b", 0);
        due(38, "in three", x.common(3), 1);
        pattern(38, x, "b", 0);
        due(38, "in two", x.common(2), 3);
        pattern(38, x, "cab", 0);
        due(38, "in one", x.common(1), 6);
        pattern(38, x, "abcabc", 0);
        TextRows y = Books.of(1, "bb", "aa", "");
        due(38, "of several the first", y.common(1), 2);
        pattern(38, y, "aa", 0);
        due(38, "none", y.common(2), 0);
        x.begin();
        x.grow('a');
        due(39, "length 0", x.oftenest(0), BAD);
        due(39, "length 7", x.oftenest(7), 0);
        pattern(39, x, "a", 1);
        due(39, "length 1", x.oftenest(1), 4);
        pattern(39, x, "b", 0);
        due(39, "length 2", x.oftenest(2), 3);
        pattern(39, x, "ab", 0);
        due(39, "length 6", x.oftenest(6), 1);
        pattern(39, x, "abcabc", 0);
        due(39, "length 4, of several the first", x.oftenest(4), 1);
        pattern(39, x, "abca", 0);
    }

    private static void uniqueAndMaximal() {
        TextRows x = Books.of(1, "abab", "b");
        int[] unique = {3, 2, 0, 0, BAD, 0, BAD};
        for (int p = 0; p < unique.length; p++) {
            due(40, "unique(" + p + ")", x.unique(p), unique[p]);
        }
        due(40, "no place", x.unique(7), BAD);
        due(40, "no place", x.unique(-1), BAD);
        due(40, "a byte alone", Books.of(1, "ab").unique(0), 1);
        due(41, "how many", x.maximal(-1), 2);
        x.grow('a');
        due(41, "none such", x.maximal(2), BAD);
        due(41, "none such", x.maximal(-2), BAD);
        due(41, "how many, changing nothing", x.maximal(-1), 2);
        pattern(41, x, "a", 1);
        due(41, "first", x.maximal(0), 2);
        pattern(41, x, "ab", 0);
        due(41, "second", x.maximal(1), 1);
        pattern(41, x, "b", 0);
        TextRows y = Books.of(1, "xay", "xay");
        due(41, "ENDs and beginnings are like nothing", y.maximal(-1), 1);
        due(41, "whole documents", y.maximal(0), 3);
        TextRows z = Books.of(1, "aaaa");
        due(41, "overlapping", z.maximal(-1), 3);
        due(41, "overlapping", z.maximal(2), 3);
        TextRows w = Books.of(1, "xaybxayc");
        due(41, "none is left that goes on", w.maximal(-1), 1);
        due(41, "the longest alone", w.maximal(0), 3);
    }

    private static void absent() {
        TextRows x = Books.of(1, "abab", "c");
        // of two bytes: aa ac bb bc ca cb cc; of five: ababa, of four: none
        due(42, "two", x.absent(2), 7);
        due(42, "three", x.absent(3), 0);
        due(42, "four", x.absent(4), 1);
        due(42, "five", x.absent(5), 0);
        due(42, "many", x.absent(Integer.MAX_VALUE), 0);
        due(42, "one", x.absent(1), BAD);
        due(42, "none", x.absent(0), BAD);
        due(42, "below", x.absent(Integer.MIN_VALUE), BAD);
        TextRows y = Books.of(1, "aaa");
        due(42, "aaaa", y.absent(4), 1);
        due(42, "aaa", y.absent(3), 0);
    }

    private static void factorsAndWords() {
        TextRows x = Books.of(1, "abab", "", "aababz");
        int[][] first = {{0, 1, NONE}, {1, 1, NONE}, {2, 2, 0}};
        int[][] third = {{6, 1, 0}, {7, 4, 0}, {11, 1, NONE}};
        due(43, "how many", x.factor(0, -1, 99), 3);
        due(43, "how many of nothing", x.factor(1, -1, 0), 0);
        due(43, "how many", x.factor(2, -1, -1), 3);
        for (int k = 0; k < 3; k++) {
            for (int what = 0; what < 3; what++) {
                due(43, "document 0, factor " + k, x.factor(0, k, what), first[k][what]);
                due(43, "document 2, factor " + k, x.factor(2, k, what), third[k][what]);
            }
        }
        due(43, "overlapping", Books.of(1, "aaaa").factor(0, 1, 1), 3);
        due(43, "the least place", Books.of(1, "abxab", "yab").factor(1, 1, 2), 0);
        due(43, "none such", x.factor(0, 3, 0), BAD);
        due(43, "none such", x.factor(0, -2, 0), BAD);
        due(43, "none such", x.factor(1, 0, 0), BAD);
        due(43, "another number", x.factor(0, 0, 3), BAD);
        due(43, "another number", x.factor(0, 0, -1), BAD);
        due(43, "no document", x.factor(3, -1, 0), BAD);
        due(43, "no document", x.factor(-1, -1, 0), BAD);
        TextRows y = Books.of(1, "x", "banana", "", "aab", "aaa", "\u00ff\u0000\u00ff");
        // b an an a; aab; a a a
        int[] words = {2, 3, 5, 7};
        due(44, "how many", y.word(1, -1), 4);
        for (int k = 0; k < 4; k++) {
            due(44, "word " + k, y.word(1, k), words[k]);
        }
        due(44, "none such", y.word(1, 4), BAD);
        due(44, "none such", y.word(1, -2), BAD);
        due(44, "of nothing", y.word(2, -1), 0);
        due(44, "of nothing", y.word(2, 0), BAD);
        due(44, "one word", y.word(3, -1), 1);
        due(44, "three words", y.word(4, -1), 3);
        due(44, "the third", y.word(4, 2), 16);
        due(44, "bytes have no signs", y.word(5, -1), 2);
        due(44, "no document", y.word(6, -1), BAD);
        due(44, "no document", y.word(-1, -1), BAD);
    }

    private static void atOnePlace() {
        TextRows x = Books.of(1, "abaabaab", "aab", "", "abcab", "b");
        // places: 0 to 7 and END 8; 9 to 11 and 12; 13; 14 to 18 and 19; 20 and 21
        int[] square = {3, 3, 1, 0, 0, 1, 0, 0, 0, 1, 0, 0, 0};
        int[] mirror = {6, 7, 5, 3, 4, 2, 1, 1, 0, 2, 1, 1, 0};
        for (int p = 0; p < square.length; p++) {
            due(45, "square(" + p + ")", x.square(p), square[p]);
            due(46, "mirror(" + p + ")", x.mirror(p), mirror[p]);
        }
        due(46, "not across ENDs", Books.of(1, "ab", "ba").mirror(0), 1);
        due(45, "not across ENDs", Books.of(1, "ab", "ab").square(0), 0);
        due(45, "no place", x.square(22), BAD);
        due(45, "no place", x.square(-1), BAD);
        due(46, "no place", x.mirror(22), BAD);
        due(46, "no place", x.mirror(-1), BAD);
        due(47, "its own, at another place", x.match(0, 0), 5);
        due(47, "another one", x.match(2, 1), 3);
        due(47, "a part of it", x.match(0, 3), 2);
        due(47, "in an empty one", x.match(0, 2), 0);
        due(47, "none", x.match(16, 0), 0);
        due(47, "its own, nowhere else", x.match(20, 4), 0);
        due(47, "of an END", x.match(8, 0), 0);
        due(47, "all of it", x.match(9, 0), 3);
        due(47, "no place", x.match(22, 0), BAD);
        due(47, "no place", x.match(-1, 0), BAD);
        due(47, "no document", x.match(0, 5), BAD);
        due(47, "no document", x.match(0, -1), BAD);
    }

    private static void counts() {
        TextRows x = Books.of(2, "banana", "", "ana");
        Books.feed(x, "abc");
        x.ask('a');
        x.place(7);
        int[] counts = {12, 3, 2, 1, 8, 12, 3, 3, 3, 3, 1, BAD};
        for (int what = 0; what < counts.length; what++) {
            due(48, "count(" + what + ")", x.count(what), counts[what]);
        }
        due(48, "count(-1)", x.count(-1), BAD);
        due(48, "NONE is unlike NONE", Books.of(1, "", "", "").count(4), 3);
        due(48, "nothing shared", Books.of(1, "", "").count(6), 0);
        due(48, "no bytes", Books.of(1, "", "").count(7), 0);
        String text = "ananab";
        for (int i = 0; i < text.length(); i++) {
            due(49, "unwound", x.unwound(0, i), text.charAt(i));
        }
        due(49, "the last", x.unwound(2, 2), 'a');
        due(49, "beyond", x.unwound(0, 6), BAD);
        due(49, "before", x.unwound(0, -1), BAD);
        due(49, "of nothing", x.unwound(1, 0), BAD);
        due(49, "no document", x.unwound(3, 0), BAD);
        due(49, "no document", x.unwound(-1, 0), BAD);
        due(49, "makes no steps", x.count(3), 1);
    }
}
