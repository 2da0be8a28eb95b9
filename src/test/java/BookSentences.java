import java.util.ArrayList;
import java.util.List;

/** Promises 1 to 6: a new object, feed, end, cut, clear, build. */
final class BookSentences {
    private static final int BAD = TextRows.BAD;
    private static final int NONE = TextRows.NONE;
    private static final int LEAST = Integer.MIN_VALUE;
    private static final int GREATEST = Integer.MAX_VALUE;

    private final Sentences s;

    BookSentences(Sentences s) {
        this.s = s;
    }

    void run() {
        newObject();
        feed();
        feedTooMany();
        end();
        endRefused();
        cut();
        cutTooManyPlaces();
        clear();
        build();
        buildLeaves();
        buildRefused();
    }

    private void bytes(TextRows x, int first, int... due) {
        for (int i = 0; i < due.length; i++) {
            s.due("byteAt(" + (first + i) + ")", x.byteAt(first + i), due[i]);
        }
    }

    /** Calls of twenty bytes each: i in all of the i-th one, from 1 on. */
    private static void feeds(TextRows x, int times) {
        for (int i = 1; i <= times; i++) {
            int four = 0x01010101 * (i % 256);
            x.feed(four, four, four, four, four);
        }
    }

    private void newObject() {
        s.test(1, "No documents", () -> {
            s.due("count(8)", new TextRows().count(8), 0);
            s.due("clear()", new TextRows().clear(), 0);
            s.due("build(1)", new TextRows().build(1), BAD);
        });
        s.test(1, "no index", () -> {
            TextRows x = new TextRows();
            for (int what = 0; what <= 7; what++) {
                s.due("count(" + what + ")", x.count(what), BAD);
            }
            s.due("place(0)", x.place(0), BAD);
            s.due("begin()", x.begin(), BAD);
        });
        s.test(1, "an empty document at hand.", () -> {
            TextRows x = new TextRows();
            s.due("count(9)", x.count(9), 0);
            s.due("end(0)", x.end(0), BAD);
            s.due("cut()", x.cut(), 0);
            s.due("build(1)", x.build(1), 1);
            s.due("document(0, 1)", x.document(0, 1), 0);
        });
    }

    private void feed() {
        s.test(2, "Twenty bytes come to the document at hand, the highest of each number first: how many it "
                + "has.", () -> {
            TextRows x = new TextRows();
            s.due("feed", x.feed(0x00010203, 0x7F80FEFF, LEAST, -1, GREATEST), 20);
            s.due("feed behind it", x.feed(0x0A0B0C0D, 0, 1, 256, 0xFF000000), 40);
            s.due("count(9)", x.count(9), 40);
            x.cut();
            s.due("feed to the next one", x.feed(5, 5, 5, 5, 5), 20);
            x.build(1);
            bytes(x, 0, 0, 1, 2, 3, 0x7F, 0x80, 0xFE, 0xFF, 0x80, 0, 0, 0, 255, 255, 255, 255, 0x7F, 255, 255, 255);
            bytes(x, 20, 10, 11, 12, 13, 0, 0, 0, 0, 0, 0, 0, 1, 0, 0, 1, 0, 255, 0, 0, 0, NONE);
        });
    }

    private void feedTooMany() {
        s.test(2, "BAD, changing nothing: there would be more than 3,000.", () -> {
            TextRows x = new TextRows();
            feeds(x, 149);
            s.due("feed up to 3,000", x.feed(7, 7, 7, 7, 7), 3000);
            s.due("feed up to 3,020", x.feed(9, 9, 9, 9, 9), BAD);
            s.due("count(9)", x.count(9), 3000);
            s.due("end(0)", x.end(0), 2980);
            s.due("feed up to 3,000 again", x.feed(0x08080808, 8, 8, 8, 8), 3000);
            s.due("end(1)", x.end(1), 2981);
            s.due("feed up to 3,001", x.feed(0x09090909, 9, 9, 9, 9), BAD);
            s.due("count(9)", x.count(9), 2981);
            s.due("cut()", x.cut(), 0);
            s.due("build(1)", x.build(1), 2982);
            bytes(x, 2979, 149, 8, NONE);
        });
        s.test(2, "there would be more than 3,000.", () -> {
            TextRows x = new TextRows();
            feeds(x, 150);
            x.end(19);
            s.due("feed behind 2,999", x.feed(1, 1, 1, 1, 1), BAD);
            x.cut();
            s.due("the next document begins at 0 again", x.feed(1, 1, 1, 1, 1), 20);
        });
    }

    private void end() {
        s.test(3, "Of the last twenty bytes of the document at hand the first n (0 .. 20) stay: how many it "
                + "has.", () -> {
            TextRows x = new TextRows();
            x.feed(0x01020304, 0x05060708, 0x090A0B0C, 0x0D0E0F10, 0x11121314);
            x.feed(0x15161718, 0x191A1B1C, 0x1D1E1F20, 0x21222324, 0x25262728);
            s.due("end(20)", x.end(20), 40);
            s.due("end(19)", x.end(19), 39);
            s.due("end(7)", x.end(7), 26);
            s.due("end(1)", x.end(1), 7);
            s.due("feed behind what stays", x.feed(0x30303030, 0, 0, 0, 0), 27);
            x.cut();
            x.build(1);
            bytes(x, 0, 1, 2, 3, 4, 5, 6, 7, 0x30, 0x30);
        });
        s.test(3, "Of the last twenty bytes of the document at hand the first n (0 .. 20) stay: how many it "
                + "has.", () -> {
            TextRows x = new TextRows();
            x.feed(1, 1, 1, 1, 1);
            s.due("end(0) of just twenty", x.end(0), 0);
            s.due("count(9)", x.count(9), 0);
            x.cut();
            s.due("a document without bytes", x.build(1), 1);
        });
    }

    private void endRefused() {
        s.test(3, "BAD: another n", () -> {
            TextRows x = new TextRows();
            feeds(x, 2);
            for (int n : new int[] {-1, 21, 40, LEAST, GREATEST}) {
                s.due("end(" + n + ")", x.end(n), BAD);
                s.due("count(9)", x.count(9), 40);
            }
        });
        s.test(3, "or it has fewer than twenty.", () -> {
            TextRows x = new TextRows();
            s.due("end(0) of none", x.end(0), BAD);
            s.due("end(20) of none", x.end(20), BAD);
            feeds(x, 1);
            s.due("end(19) of twenty", x.end(19), 19);
            for (int n = 0; n <= 20; n++) {
                s.due("end(" + n + ") of nineteen", x.end(n), BAD);
            }
            s.due("count(9)", x.count(9), 19);
            x.cut();
            s.due("the bytes of the document before do not count", x.end(0), BAD);
        });
    }

    private void cut() {
        s.test(4, "The document at hand is ended, and the next one is at hand, empty: its number.", () -> {
            TextRows x = new TextRows();
            feeds(x, 1);
            s.due("cut()", x.cut(), 0);
            s.due("count(8)", x.count(8), 1);
            s.due("count(9)", x.count(9), 0);
            s.due("cut() of no bytes", x.cut(), 1);
            Books.feed(x, "xyz");
            s.due("cut()", x.cut(), 2);
            x.build(1);
            s.due("document(0, 1)", x.document(0, 1), 20);
            s.due("document(1, 1)", x.document(1, 1), 0);
            s.due("document(2, 1)", x.document(2, 1), 3);
        });
        s.test(4, "BAD, changing nothing: there are 40", () -> {
            TextRows x = new TextRows();
            for (int d = 0; d < 40; d++) {
                s.due("cut()", x.cut(), d);
            }
            s.due("the 41st, without bytes", x.cut(), BAD);
            Books.feed(x, "abc");
            s.due("the 41st", x.cut(), BAD);
            s.due("count(8)", x.count(8), 40);
            s.due("count(9)", x.count(9), 3);
            s.due("build(1)", x.build(1), 40);
            s.due("clear()", x.clear(), 40);
            s.due("cut() of a book without documents", x.cut(), 0);
        });
    }

    private void cutTooManyPlaces() {
        s.test(4, "or there would be more than 3,000 places.", () -> {
            TextRows x = new TextRows();
            feeds(x, 150);
            s.due("cut() of 3,000 bytes: 3,001 places", x.cut(), BAD);
            s.due("count(8)", x.count(8), 0);
            s.due("count(9)", x.count(9), 3000);
            s.due("end(19)", x.end(19), 2999);
            s.due("cut() of 2,999 bytes: 3,000 places", x.cut(), 0);
            s.due("cut() of no bytes: one END too many", x.cut(), BAD);
            s.due("count(8)", x.count(8), 1);
            s.due("build(1)", x.build(1), 3000);
            bytes(x, 2979, 149, 150);
            bytes(x, 2998, 150, NONE);
        });
        s.test(4, "or there would be more than 3,000 places.", () -> {
            TextRows x = new TextRows();
            Books.feed(x, "a".repeat(1499));
            s.due("cut()", x.cut(), 0);
            Books.feed(x, "b".repeat(1500));
            s.due("cut(): 3,001 places of two documents", x.cut(), BAD);
            s.due("count(9)", x.count(9), 1500);
            s.due("build(1): one document", x.build(1), 1500);
            s.due("end(19)", x.end(19), 1499);
            s.due("cut(): 3,000 places of two documents", x.cut(), 1);
            s.due("build(1)", x.build(1), 3000);
            bytes(x, 1498, 'a', NONE, 'b');
        });
    }

    private void clear() {
        s.test(5, "All documents are gone, and all bytes of the one at hand: how many documents there were.", () -> {
            TextRows x = new TextRows();
            Books.write(x, "ab", "", "c");
            Books.feed(x, "rest");
            s.due("clear()", x.clear(), 3);
            s.due("count(8)", x.count(8), 0);
            s.due("count(9)", x.count(9), 0);
            s.due("build(1)", x.build(1), BAD);
            s.due("clear() again", x.clear(), 0);
            Books.feed(x, "z");
            s.due("clear() of bytes at hand alone", x.clear(), 0);
            s.due("count(9)", x.count(9), 0);
            s.due("cut(): numbers begin anew", x.cut(), 0);
            s.due("build(1)", x.build(1), 1);
        });
        s.test(5, "All documents are gone", () -> {
            TextRows x = new TextRows();
            Books.write(x, "a".repeat(2999));
            s.due("clear() of a full book", x.clear(), 1);
            Books.feed(x, "b".repeat(2999));
            s.due("all 3,000 places are free", x.cut(), 0);
            s.due("build(1)", x.build(1), 3000);
            s.due("byteAt(2998)", x.byteAt(2998), 'b');
        });
        s.test(5, "(The index stays.)", () -> {
            TextRows x = Books.of(3, "abab", "b");
            x.grow('a');
            x.near(0);
            Books.answer(x, "b");
            x.place(0);
            s.due("clear()", x.clear(), 2);
            s.due("count(0)", x.count(0), 7);
            s.due("count(1)", x.count(1), 2);
            s.due("count(2)", x.count(2), 3);
            bytes(x, 0, 'a', 'b', 'a', 'b', NONE, 'b', NONE);
            s.due("the pattern stays", x.pattern(2), 2);
            s.due("grow", x.grow('b'), 2);
            s.due("what is near stays", x.nearOf(1, 0), 2);
            s.due("the answer stays", x.answered(2, 0), 5);
            s.due("steps stay", x.count(3), 1);
        });
    }

    private void build() {
        s.test(6, "The index is made of all documents that were ended, with a rate 1 .. 64: n;", () -> {
            TextRows x = new TextRows();
            Books.write(x, "ab", "");
            Books.feed(x, "at hand");
            s.due("build(1)", x.build(1), 4);
            s.due("count(2)", x.count(2), 1);
            s.due("count(1)", x.count(1), 2);
            s.due("what is at hand stays there", x.count(9), 7);
            s.due("build(64)", x.build(64), 4);
            s.due("count(2)", x.count(2), 64);
            x.cut();
            s.due("build(2) with the document that was at hand", x.build(2), 12);
            s.due("count(1)", x.count(1), 3);
        });
        s.test(6, "The index is made of all documents that were ended, with a rate 1 .. 64: n;", () -> {
            TextRows x = Books.of(1, "abcabc", "x");
            x.clear();
            Books.write(x, "q");
            s.due("build(1) of a lesser book", x.build(1), 2);
            s.due("place(2)", x.place(2), BAD);
            s.due("document(1, 0)", x.document(1, 0), BAD);
            s.due("grow('a')", x.grow('a'), 0);
            s.due("different(0)", x.different(0), 1);
        });
        s.test(6, "The index is made of all documents that were ended", () -> {
            String[][] books = {{"a".repeat(20), "aa"}, {"ba", "ab"}, {"abab"}, {""}, {"b", "ab", "ba"}, {"aab"}};
            TextRows x = new TextRows();
            for (String[] book : books) {
                x.clear();
                Books.write(x, book);
                x.build(2);
                s.holds("nothing is left of the index before", told(x).equals(told(Books.of(2, book))));
            }
        });
    }

    private void buildLeaves() {
        s.test(6, "the pattern is empty", () -> {
            TextRows x = Books.of(1, "abab");
            x.grow('a');
            x.grow('b');
            x.build(1);
            s.pattern(x, "", 0);
            s.due("pattern(1)", x.pattern(1), 0);
            s.due("pattern(2)", x.pattern(2), 5);
            s.due("back()", x.back(), BAD);
        });
        s.test(6, "nothing near", () -> {
            TextRows x = Books.of(1, "abab");
            x.take(0, 1);
            s.due("near(1)", x.near(1), 4);
            x.build(1);
            s.due("nearOf(0, 0)", x.nearOf(0, 0), BAD);
        });
        s.test(6, "no answer", () -> {
            TextRows x = Books.of(1, "abab");
            s.due("answer()", Books.answer(x, "a"), 2);
            x.ask('b');
            x.build(1);
            s.due("answered(0, 0)", x.answered(0, 0), BAD);
            s.due("the signs that wait stay", x.count(10), 1);
            s.due("answer()", x.answer(), 2);
        });
        s.test(6, "no steps.", () -> {
            TextRows x = Books.of(8, "abab");
            x.place(0);
            s.due("count(3)", x.count(3), 4);
            x.build(8);
            s.due("count(3)", x.count(3), 0);
        });
    }

    private void buildRefused() {
        s.test(6, "BAD, changing nothing: no documents", () -> {
            TextRows x = new TextRows();
            s.unchanged(x, "build(1) of a new object", () -> x.build(1), BAD);
            Books.feed(x, "ab");
            s.unchanged(x, "build(1) of what is at hand alone", () -> x.build(1), BAD);
            TextRows y = rich();
            y.clear();
            s.unchanged(y, "build(1) of a cleared book", () -> y.build(1), BAD);
            s.due("back() still has its history", y.back(), 1);
        });
        s.test(6, "another rate.", () -> {
            for (int rate : new int[] {0, 65, -1, LEAST, GREATEST}) {
                TextRows x = rich();
                Books.write(x, "not in the index");
                s.unchanged(x, "build(" + rate + ")", () -> x.build(rate), BAD);
                s.due("back() still has its history", x.back(), 1);
            }
            s.due("build(0) of a book that never had an index", neverBuilt().build(0), BAD);
            s.due("build(65) of a book that never had an index", neverBuilt().build(65), BAD);
        });
    }

    /** What tells an index of up to seven places from others. */
    private static List<Integer> told(TextRows x) {
        List<Integer> all = new ArrayList<>(List.of(x.pattern(1), x.pattern(2), x.begin(), x.pattern(1), x.pattern(2)));
        for (int i = 0; i <= 7; i++) {
            all.addAll(List.of(x.row(i), x.shared(i), x.before(i), x.step(i), x.maximal(i), x.square(i), x.mirror(i)));
        }
        x.take(0, 1);
        all.addAll(List.of(x.near(0), x.different(0), x.absent(2), x.factor(0, -1, 0), x.count(4), x.count(5)));
        return all;
    }

    private static TextRows neverBuilt() {
        TextRows x = new TextRows();
        x.cut();
        return x;
    }

    /** With a pattern, a history, something near, an answer, steps and a query. */
    private static TextRows rich() {
        TextRows x = Books.of(3, "abab", "b");
        x.grow('a');
        x.grow('b');
        x.near(1);
        Books.answer(x, "b+");
        x.place(0);
        x.ask('x');
        return x;
    }
}
