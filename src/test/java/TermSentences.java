import java.lang.reflect.Method;
import java.lang.reflect.Modifier;
import java.util.Arrays;
import java.util.List;
import java.util.TreeSet;
import java.util.regex.Matcher;
import java.util.regex.Pattern;

/** What holds for all promises: the face, the book, places and rows, substrings, steps and the pattern at hand. */
final class TermSentences {
    private static final int FACE = Sentences.FACE;
    private static final int TERMS = Sentences.TERMS;
    private static final int BAD = TextRows.BAD;
    private static final int NONE = TextRows.NONE;

    private final Sentences s;

    TermSentences(Sentences s) {
        this.s = s;
    }

    void run() {
        face();
        memory();
        bytes();
        documents();
        limits();
        index();
        suffixes();
        ends();
        rows();
        substrings();
        sampled();
        steps();
        thePattern();
        whatChangesThePattern();
        history();
        withoutAnIndex();
    }

    private void face() {
        s.test(TERMS, "An object is used for at most 512 calls after it has been made; what later calls answer is "
                + "free.", () -> {
            TextRows x = Books.of(64, "abab");
            int used = 4;
            while (used < 510) {
                x.place(0);
                used++;
            }
            s.due("call 511", x.place(0), 4);
            s.due("call 512", x.count(3), 4 * 507);
        });
        s.test(FACE, "public static final int BAD = -1, NONE = -2;", () -> {
            s.due("BAD", TextRows.BAD, -1);
            s.due("NONE", TextRows.NONE, -2);
        });
        s.test(FACE, "public final class TextRows {", () -> {
            s.holds("it is final", Modifier.isFinal(TextRows.class.getModifiers()));
            s.due("calls", Both.face().size(), 48);
        });
        s.test(FACE, "public TextRows();", () -> s.due("constructors", TextRows.class.getConstructors().length, 1));
        for (Method method : Both.face()) {
            String line = inTheDocument(method);
            s.test(FACE, line, () -> s.holds(line, Modifier.isPublic(method.getModifiers())));
        }
    }

    /** A call as the document writes it; the names of its parameters are the document's own. */
    private String inTheDocument(Method method) {
        StringBuilder types = new StringBuilder("public int " + method.getName() + "\\(");
        for (Class<?> type : method.getParameterTypes()) {
            types.append(types.toString().endsWith("(") ? "" : ", ").append(type.getName()).append(" \\w+");
        }
        Matcher line = Pattern.compile(types + "\\);").matcher(s.face());
        return line.find() && method.getReturnType() == int.class ? line.group() : "no " + method;
    }

    private void memory() {
        s.test(TERMS, "All memory is the class's own, made once.", () -> {
            TextRows x = Books.of(2, "abab", "b");
            x.grow('a');
            x.near(1);
            Books.answer(x, "b+");
            x.ask('a');
            Books.feed(x, "xy");
            List<Integer> before = Sentences.seen(x);
            TextRows y = Books.of(3, "zzzz", "", "y");
            y.grow('z');
            y.near(0);
            Books.answer(y, ".");
            Books.feed(y, "0123456789");
            s.holds("no object tells of another one", Sentences.seen(x).equals(before));
            s.due("cut()", x.cut(), 2);
            s.due("build(1)", x.build(1), 10);
            s.due("byteAt(7)", x.byteAt(7), 'x');
        });
    }

    private void bytes() {
        s.test(TERMS, "BYTES are 0 .. 255.", () -> {
            StringBuilder all = new StringBuilder();
            for (char c = 0; c < 256; c++) {
                all.append(c);
            }
            TextRows x = Books.of(1, all.toString());
            s.due("count(7)", x.count(7), 256);
            s.due("byteAt(0)", x.byteAt(0), 0);
            s.due("byteAt(255)", x.byteAt(255), 255);
            s.due("row of byte 0: behind the END", x.row(0), 1);
            s.due("row of byte 128", x.row(128), 129);
            s.due("row of byte 255", x.row(255), 256);
            s.due("grow(0)", x.grow(0), 1);
            s.due("front(255)", x.front(255), 0);
            x.begin();
            s.due("grow(255)", x.grow(255), 1);
            s.due("grow(256)", x.grow(256), BAD);
            s.due("grow(-1)", x.grow(-1), BAD);
        });
        s.test(TERMS, "THE BOOK is written document by document: bytes come to the document AT HAND, cut() ends "
                + "it.", () -> {
            TextRows x = new TextRows();
            Books.feed(x, "ab");
            x.cut();
            Books.feed(x, "c");
            s.due("build(1): what is at hand is not in it", x.build(1), 3);
            x.cut();
            s.due("build(1)", x.build(1), 5);
            s.due("byteAt(3)", x.byteAt(3), 'c');
        });
    }

    private void documents() {
        s.test(TERMS, "DOCUMENTS are numbered from 0 on in the order of their ends;", () -> {
            TextRows x = new TextRows();
            String[] texts = {"zz", "a", "m"};
            for (int d = 0; d < 3; d++) {
                Books.feed(x, texts[d]);
                s.due("cut()", x.cut(), d);
            }
            x.build(1);
            for (int d = 0; d < 3; d++) {
                s.due("first byte of " + d, x.byteAt(x.document(d, 0)), texts[d].charAt(0));
            }
        });
        s.test(TERMS, "a document may have no bytes;", () -> {
            TextRows x = Books.of(1, "", "a", "", "", "b", "");
            s.due("count(0)", x.count(0), 8);
            int[] firsts = {0, 1, 3, 4, 5, 7};
            for (int d = 0; d < firsts.length; d++) {
                s.due("document(" + d + ", 0)", x.document(d, 0), firsts[d]);
                s.due("document(" + d + ", 1)", x.document(d, 1), d == 1 || d == 4 ? 1 : 0);
            }
        });
        s.test(TERMS, "a document may have no bytes;", () -> {
            TextRows x = Books.of(1, "");
            int[] answers = {x.count(0), x.place(0), x.row(0), x.shared(0), x.before(0), x.step(0), x.rank(0, 1),
                x.select(0, 0), x.byteAt(0), x.document(0, 0), x.document(0, 1), x.document(0, 2), x.alike(0, 0),
                x.begin(), x.grow(0), x.front(0), x.back(), x.pattern(0), x.pattern(1), x.pattern(2), x.patternByte(0),
                x.at(0), x.sorted(0), x.more(true, -1), x.more(false, -1), x.ranked(-1), x.ranked(0), x.times(0),
                x.take(0, 1), x.near(0), x.answer(), x.different(0), x.different(1), x.kth(0), x.order(),
                x.repeated(2), x.common(1), x.oftenest(1), x.unique(0), x.maximal(-1), x.maximal(0), x.absent(2),
                x.factor(0, -1, 0), x.factor(0, 0, 0), x.word(0, -1), x.word(0, 0), x.square(0), x.mirror(0),
                x.match(0, 0), x.count(4), x.count(5), x.count(6), x.count(7), x.unwound(0, 0)};
            int[] due = {1, 0, 0, 0, NONE, NONE, 0,
                BAD, NONE, 0, 0, 0, 0,
                1, 0, 0, BAD, 0, 0, 1, BAD,
                0, 0, 0, 0, 1, 0, 1,
                BAD, BAD, 0, 0, 0, BAD, 0,
                0, 0, 0, BAD, 0, BAD, 0,
                0, BAD, 0, BAD, 0, 0,
                0, 1, 0, 0, 0, BAD};
            s.due("calls", answers.length, due.length);
            for (int i = 0; i < due.length; i++) {
                s.due("call " + i + " of a book of one END alone", answers[i], due[i]);
            }
        });
        s.test(TERMS, "two may be alike.", () -> {
            TextRows x = Books.of(1, "ab", "ab");
            s.due("count(1)", x.count(1), 2);
            s.due("take(0, 2)", x.take(0, 2), 2);
            s.due("sorted(1)", x.sorted(1), 3);
            s.due("common(2)", x.common(2), 2);
        });
    }

    private void limits() {
        s.test(TERMS, "There are at most 40 documents", () -> {
            TextRows x = new TextRows();
            for (int d = 0; d < 40; d++) {
                Books.feed(x, "a");
                s.due("cut()", x.cut(), d);
            }
            Books.feed(x, "a");
            s.due("the 41st", x.cut(), BAD);
            s.due("build(1)", x.build(1), 80);
            s.due("document(39, 0)", x.document(39, 0), 78);
            x.grow('a');
            s.due("ranked(-1)", x.ranked(-1), 40);
        });
        s.test(TERMS, "There are at most 40 documents", () -> {
            String[] forty = new String[40];
            Arrays.fill(forty, "ab");
            TextRows x = Books.of(1, forty);
            s.due("unique() of the last END", x.unique(119), BAD);
            s.due("alike() of the last two ENDs", x.alike(116, 119), 0);
            s.due("mirror() of the last END", x.mirror(119), 0);
            s.due("square() of the last END", x.square(119), 0);
            s.due("times(39) of the empty pattern", x.times(39), 3);
            x.take(118, 1);
            s.due("more(true, -1): no ENDs", x.more(true, -1), 0);
            s.due("more(false, -1)", x.more(false, -1), 1);
            s.due("near(3)", x.near(3), 80);
            s.due("answer of b.", Books.answer(x, "b."), 0);
            s.due("answer of [^a]", Books.answer(x, "[^a]"), 40);
            s.due("match(117, 0)", x.match(117, 0), 2);
            s.due("factor(39, 0, 2)", x.factor(39, 0, 2), 0);
            s.due("word(39, 0)", x.word(39, 0), 117);
            s.due("unwound(39, 1)", x.unwound(39, 1), 'a');
            s.due("absent(2): aa ba bb", x.absent(2), 3);
        });
        s.test(TERMS, "and 3,000 PLACES: all bytes of documents that were ended, and one END behind each;", () -> {
            TextRows x = new TextRows();
            for (int d = 0; d < 39; d++) {
                Books.write(x, "a".repeat(74));
            }
            Books.feed(x, "b".repeat(75));
            s.due("cut(): 3,001 places", x.cut(), BAD);
            s.due("end(19)", x.end(19), 74);
            s.due("cut(): 3,000 places", x.cut(), 39);
            s.due("build(64)", x.build(64), 3000);
            s.due("document(39, 0)", x.document(39, 0), 2925);
            s.due("byteAt(2998)", x.byteAt(2998), 'b');
            s.due("byteAt(2999)", x.byteAt(2999), NONE);
        });
        s.test(TERMS, "3,000 PLACES", () -> fullBook(Books.of(64, "a".repeat(2999))));
        s.test(TERMS, "the document at hand has at most 3,000 bytes, whether or not it would fit.", () -> {
            TextRows x = new TextRows();
            Books.write(x, "a".repeat(2999));
            for (int i = 1; i <= 150; i++) {
                s.due("feed to a full book", x.feed(i, i, i, i, i), 20 * i);
            }
            s.due("the 3,001st byte", x.feed(0, 0, 0, 0, 0), BAD);
            s.due("count(9)", x.count(9), 3000);
            s.due("cut()", x.cut(), BAD);
            x.clear();
            s.due("feed", x.feed(0, 0, 0, 0, 0), 20);
        });
    }

    /** Row i is the place 2999 - i. */
    private void fullBook(TextRows x) {
        int[] answers = {x.place(2999), x.place(3000), x.row(0), x.row(2999), x.row(3000), x.shared(2999),
            x.before(2999), x.before(0), x.step(2999), x.step(0), x.rank('a', 3000), x.rank('a', 3001),
            x.select('a', 2998), x.select('a', 2999), x.byteAt(2998), x.byteAt(2999), x.byteAt(3000),
            x.document(2999, 2), x.document(0, 1), x.alike(0, 1), x.alike(2999, 2999), x.begin(), x.sorted(2999),
            x.sorted(3000), x.grow('a'), x.at(2998), x.at(2999), x.sorted(2998), x.sorted(2999), x.more(true, -1),
            x.more(false, -1), x.ranked(-1), x.times(0), x.near(3), x.nearOf(2998, 0), x.nearOf(2999, 0)};
        int[] due = {0, BAD, 2999, 0, BAD, 2998,
            NONE, 'a', NONE, 1, 2999, BAD,
            2998, BAD, 'a', NONE, BAD,
            0, 2999, 2998, 0, 3000, 2999,
            BAD, 2999, 0, BAD, 2998, BAD, 1,
            1, 1, 2999, 2999, 2998, BAD};
        for (int i = 0; i < due.length; i++) {
            s.due("call " + i + " of a full book", answers[i], due[i]);
        }
        s.due("answer of .*", Books.answer(x, ".*"), 2999);
        int[] more = {x.answered(0, 2), x.answered(2998, 0), x.answered(2999, 0), x.different(0), x.kth(2998),
            x.order(), x.kth(2999), x.repeated(2), x.common(1), x.oftenest(2999), x.unique(0), x.unique(2999),
            x.maximal(-1), x.maximal(2997), x.maximal(2998), x.absent(3000), x.factor(0, -1, 0), x.word(0, -1),
            x.square(0), x.square(2998), x.mirror(0), x.match(0, 0), x.match(2998, 0), x.unwound(0, 2998),
            x.unwound(0, 2999), x.count(4), x.count(7)};
        int[] moreDue = {2999, 2998, BAD, 2999, 2999,
            2998, BAD, 2998, 2999, 1, 2999, BAD,
            2998, 2998, BAD, 1, 2, 2999,
            1, 0, 2999, 2998, 1, 'a',
            BAD, 2, 1};
        for (int i = 0; i < moreDue.length; i++) {
            s.due("call " + (due.length + i) + " of a full book", more[i], moreDue[i]);
        }
    }

    private void index() {
        s.test(TERMS, "What is said from here on is about the INDEX: the documents that were there at the last "
                + "build(), whatever came behind.", () -> {
            TextRows x = Books.of(1, "ab");
            Books.write(x, "cd");
            s.due("count(0) behind cut()", x.count(0), 3);
            s.due("grow('c') behind cut()", x.grow('c'), 0);
            s.due("document(1, 0) behind cut()", x.document(1, 0), BAD);
            x.clear();
            Books.feed(x, "xyz");
            s.due("byteAt(0) behind clear()", x.byteAt(0), 'a');
            x.cut();
            s.due("byteAt(0) behind another cut()", x.byteAt(0), 'a');
            s.due("build(0)", x.build(0), BAD);
            s.due("byteAt(0) behind a build() that was refused", x.byteAt(0), 'a');
            s.due("build(1)", x.build(1), 4);
            s.due("byteAt(0)", x.byteAt(0), 'x');
        });
        s.test(TERMS, "PLACES are numbered from 0 on, document after document, each END behind its document's "
                + "bytes; n is how many.", () -> {
            TextRows x = Books.of(1, "ab", "", "c");
            int[] due = {'a', 'b', NONE, NONE, 'c', NONE, BAD};
            for (int p = 0; p < due.length; p++) {
                s.due("byteAt(" + p + ")", x.byteAt(p), due[p]);
            }
            s.due("count(0)", x.count(0), 6);
        });
    }

    private void suffixes() {
        s.test(TERMS, "The SUFFIX of a place is what stands from there up to its document's END, which belongs to "
                + "it.", () -> {
            TextRows x = Books.of(1, "ab", "ab", "abc");
            s.due("alike(0, 3): not beyond the END", x.alike(0, 3), 2);
            s.due("alike(0, 6): the END is not like c", x.alike(0, 6), 2);
            s.due("alike(6, 6)", x.alike(6, 6), 3);
            s.due("row(0)", x.row(0), 3);
            s.due("row(3): the ENDs tell the two apart", x.row(3), 4);
            s.due("row(6)", x.row(6), 5);
        });
        s.test(TERMS, "So no two suffixes are alike;", () -> {
            String[] documents = new String[40];
            Arrays.fill(documents, "aa");
            TextRows x = Books.of(1, documents);
            TreeSet<Integer> rows = new TreeSet<>();
            for (int p = 0; p < 120; p++) {
                rows.add(x.row(p));
            }
            s.due("different rows", rows.size(), 120);
            s.due("the greatest one", rows.last(), 119);
            s.due("the least one", rows.first(), 0);
        });
        s.test(TERMS, "their ORDER is that of the first difference.", () -> {
            TextRows x = Books.of(1, "ab", "aab", "b\u0000", "\u007f\u0080");
            // a0 b1 END2, a3 a4 b5 END6, b7 \0 8 END9, 127 10, 128 11, END12
            int[] places = {2, 6, 9, 12, 8, 3, 0, 4, 1, 5, 7, 10, 11};
            for (int i = 0; i < places.length; i++) {
                s.due("place(" + i + ")", x.place(i), places[i]);
            }
            s.due("count(0)", x.count(0), places.length);
        });
    }

    private void ends() {
        s.test(TERMS, "An END is less than all bytes", () -> {
            TextRows x = Books.of(1, "a\u0000", "a");
            // a0 \0 1 END2, a3 END4
            int[] places = {2, 4, 1, 3, 0};
            for (int i = 0; i < places.length; i++) {
                s.due("place(" + i + ")", x.place(i), places[i]);
            }
            TextRows y = Books.of(1, "\u0000\u0000\u0000");
            for (int p = 0; p < 4; p++) {
                s.due("row(" + p + ") of zeros", y.row(p), 3 - p);
            }
        });
        s.test(TERMS, "and that of a document less than that of each later one.", () -> {
            TextRows x = new TextRows();
            for (int d = 0; d < 40; d++) {
                x.cut();
            }
            x.build(1);
            for (int d = 0; d < 40; d++) {
                s.due("row of the END of " + d, x.row(d), d);
            }
            TextRows y = Books.of(1, "b", "ab", "b");
            // b0 END1, a2 b3 END4, b5 END6
            int[] places = {1, 4, 6, 2, 0, 3, 5};
            for (int i = 0; i < places.length; i++) {
                s.due("place(" + i + ")", y.place(i), places[i]);
            }
        });
    }

    private void rows() {
        s.test(TERMS, "ROW i (i of 0 .. n - 1) is the place whose suffix has i lesser ones.", () -> {
            TextRows x = Books.of(1, "mississippi");
            int[] places = {11, 10, 7, 4, 1, 0, 9, 8, 6, 3, 5, 2};
            for (int i = 0; i < places.length; i++) {
                s.due("place(" + i + ")", x.place(i), places[i]);
                s.due("row(" + places[i] + ")", x.row(places[i]), i);
            }
            s.due("place(12)", x.place(12), BAD);
            s.due("place(-1)", x.place(-1), BAD);
        });
        s.test(TERMS, "SHARED(i) is with how many bytes alike the suffixes of rows i - 1 and i begin", () -> {
            TextRows x = Books.of(1, "mississippi");
            int[] shared = {0, 0, 1, 1, 4, 0, 0, 1, 0, 2, 1, 3};
            for (int i = 0; i < shared.length; i++) {
                s.due("shared(" + i + ")", x.shared(i), shared[i]);
            }
        });
        s.test(TERMS, "(ENDS are no bytes; 0 for row 0).", () -> {
            TextRows x = Books.of(1, "a", "a", "");
            int[] shared = {0, 0, 0, 0, 1};
            for (int i = 0; i < shared.length; i++) {
                s.due("shared(" + i + ")", x.shared(i), shared[i]);
            }
        });
        s.test(TERMS, "BEFORE(i) is the byte in front of row i's place;", () -> {
            TextRows x = Books.of(1, "mississippi");
            String before = "ipssm?pissii";
            for (int i = 0; i < 12; i++) {
                s.due("before(" + i + ")", x.before(i), i == 5 ? NONE : before.charAt(i));
            }
        });
        s.test(TERMS, "NONE, if that is its document's first place (a document without bytes: its END).", () -> {
            TextRows x = Books.of(1, "a", "b", "", "c");
            // a0 END1, b2 END3, END4, c5 END6
            int[] before = {NONE, 'a', NONE, 'b', NONE, NONE, 'c'};
            for (int p = 0; p < 7; p++) {
                s.due("before of place " + p, x.before(x.row(p)), before[p]);
            }
        });
    }

    private void substrings() {
        s.test(TERMS, "A SUBSTRING is a row of one or more bytes that stands somewhere in one document, at a PLACE, "
                + "its first byte's.", () -> {
            TextRows x = Books.of(1, "ab", "", "c");
            s.due("different(0): a ab b c", x.different(0), 4);
            s.due("different(2): not bc", x.different(2), 1);
            s.due("kth(0): not the empty one", x.kth(0), 1);
            x.take(0, 2);
            s.due("sorted(0) of ab", x.sorted(0), 0);
            s.due("different(0) with no bytes", Books.of(1, "", "").different(0), 0);
        });
        s.test(TERMS, "Substrings are different if their bytes are.", () -> {
            s.due("aa and a: a, aa", Books.of(1, "aa", "a").different(0), 2);
            s.due("three alike", Books.of(1, "ab", "ab", "ab").different(0), 3);
            s.due("different by one byte", Books.of(1, "\u0000", "\u00ff").different(0), 2);
        });
        s.test(TERMS, "They are in order by their first difference; a substring that another one begins with comes "
                + "before that one.", () -> {
            TextRows x = Books.of(1, "b\u007f", "ba", "b\u0080");
            String[] all = {"a", "b", "ba", "b\u007f", "b\u0080", "\u007f", "\u0080"};
            s.due("different(0)", x.different(0), all.length);
            for (int k = 0; k < all.length; k++) {
                s.due("kth(" + k + ")", x.kth(k), all[k].length());
                s.pattern(x, all[k], 0);
            }
        });
    }

    private void sampled() {
        s.test(TERMS, "EACH RATE-th place of a document, from its first one on, is SAMPLED.", () -> {
            TextRows x = Books.of(3, "abcd", "ab", "", "xyz");
            int[] steps = {0, 1, 2, 0, 1, 0, 1, 2, 0, 0, 1, 2, 0};
            toldIn(x, steps);
        });
        s.test(TERMS, "A place is TOLD by its row in as many STEPS as there are places from the nearest sampled one "
                + "at or before it up to it;", () -> {
            TextRows x = Books.of(64, "a".repeat(129));
            int[] places = {0, 1, 62, 63, 64, 65, 127, 128, 129};
            int[] steps = {0, 1, 62, 63, 0, 1, 63, 0, 1};
            int sum = 0;
            for (int i = 0; i < places.length; i++) {
                x.place(x.row(places[i]));
                sum += steps[i];
                s.due("count(3) behind place " + places[i], x.count(3), sum);
            }
            toldIn(Books.of(1, "abc", ""), new int[] {0, 0, 0, 0, 0});
            toldIn(Books.of(2, "abc", "d"), new int[] {0, 1, 0, 1, 0, 1});
        });
    }

    private void toldIn(TextRows x, int[] steps) {
        int sum = 0;
        for (int p = 0; p < steps.length; p++) {
            s.due("place of the row of " + p, x.place(x.row(p)), p);
            sum += steps[p];
            s.due("count(3) behind place " + p, x.count(3), sum);
        }
    }

    private void steps() {
        s.test(TERMS, "place() and at() count them, no other call does.", () -> {
            TextRows x = Books.of(64, "banana", "ana");
            x.grow('a');
            int sum = x.row(3) + x.shared(3) + x.before(3) + x.step(3) + x.rank('a', 9) + x.select('a', 2);
            sum += x.byteAt(3) + x.document(3, 2) + x.document(1, 0) + x.alike(1, 3) + x.grow('n') + x.front('n');
            sum += x.back() + x.pattern(1) + x.patternByte(0) + x.sorted(1) + x.more(true, 0) + x.more(false, -1);
            sum += x.ranked(0) + x.times(0) + x.near(1) + x.nearOf(1, 0) + x.ask('a') + x.answer();
            sum += x.answered(0, 0) + x.different(0) + x.kth(3) + x.order() + x.repeated(2) + x.common(2);
            sum += x.oftenest(1) + x.unique(3) + x.maximal(-1) + x.maximal(0) + x.absent(2) + x.factor(0, 3, 2);
            sum += x.word(0, 2) + x.square(1) + x.mirror(1) + x.match(3, 1) + x.count(4) + x.unwound(0, 5);
            sum += x.take(3, 2) + x.begin() + x.cut() + x.clear() + x.end(0) + x.feed(1, 1, 1, 1, 1);
            s.due("count(3) behind all other calls (" + sum + ")", x.count(3), 0);
            s.due("place(0)", x.place(0), 6);
            s.due("count(3) behind place()", x.count(3), 6);
            s.due("at(0)", x.at(0), 6);
            s.due("count(3) behind at()", x.count(3), 12);
        });
    }

    private void thePattern() {
        s.test(TERMS, "THE PATTERN AT HAND is a row of 0 .. 3,000 bytes that stands in the index", () -> {
            TextRows x = Books.of(64, "a".repeat(2999));
            s.due("the longest that can stand", x.take(0, 2999), 1);
            s.due("pattern(0)", x.pattern(0), 2999);
            s.due("patternByte(2998)", x.patternByte(2998), 'a');
            s.due("patternByte(2999)", x.patternByte(2999), BAD);
            s.due("grow('a')", x.grow('a'), 0);
            s.due("front('a')", x.front('a'), 0);
            s.due("take(1, 2998)", x.take(1, 2998), 2);
            s.due("front('a')", x.front('a'), 1);
            s.due("pattern(0)", x.pattern(0), 2999);
            s.due("back()", x.back(), 2998);
        });
        s.test(TERMS, "(the empty one stands before every byte, and at every END):", () -> {
            TextRows x = Books.of(1, "ab", "", "c");
            s.due("pattern(2)", x.pattern(2), 6);
            for (int p = 0; p < 6; p++) {
                s.due("sorted(" + p + ")", x.sorted(p), p);
            }
            s.due("times(0)", x.times(0), 3);
            s.due("times(1)", x.times(1), 1);
        });
        s.test(TERMS, "its ROWS are all rows whose suffixes begin with it, one behind the other.", () -> {
            TextRows x = Books.of(1, "mississippi");
            x.take(2, 1);
            s.due("pattern(1)", x.pattern(1), 8);
            s.due("pattern(2)", x.pattern(2), 4);
            for (int k = 0; k < 4; k++) {
                s.due("at(" + k + ")", x.at(k), x.place(8 + k));
            }
            s.due("at(4)", x.at(4), BAD);
        });
        s.test(TERMS, "build() leaves it empty.", () -> {
            TextRows x = Books.of(1, "ab");
            x.take(0, 2);
            x.build(1);
            s.pattern(x, "", 0);
            x.grow('a');
            x.build(1);
            s.pattern(x, "", 0);
        });
    }

    private void whatChangesThePattern() {
        s.test(TERMS, "Calls that change it say so; what they refuse leaves it as it was.", () -> {
            TextRows x = Books.of(1, "abab", "b");
            x.grow('b');
            int[] refused = {x.grow('b'), x.grow(256), x.front('c'), x.front(-1), x.take(4, 1), x.take(0, 0),
                x.kth(99), x.kth(-1), x.repeated(1), x.repeated(99), x.common(0), x.common(3), x.oftenest(0),
                x.oftenest(5), x.maximal(-1), x.maximal(-2), x.maximal(99)};
            s.pattern(x, "b", 1);
            s.due("calls", refused.length, 17);
            int[] others = {x.place(3), x.row(3), x.at(0), x.sorted(1), x.more(true, 0), x.ranked(0), x.times(0),
                x.near(1), x.nearOf(0, 0), x.ask('a'), x.answer(), x.answered(0, 0), x.different(0), x.order(),
                x.unique(0), x.absent(2), x.factor(0, 0, 0), x.word(0, 0), x.square(0), x.mirror(0), x.match(0, 1),
                x.count(5), x.unwound(0, 0), x.alike(0, 2), x.clear(), x.cut()};
            s.pattern(x, "b", 1);
            s.due("calls", others.length, 26);
            s.due("back()", x.back(), 0);
        });
    }

    private void history() {
        s.test(TERMS, "It has a HISTORY: each grow() and front() that was done since it was last made whole by "
                + "another call;", () -> {
            TextRows x = Books.of(1, "abab", "b", "abab");
            x.grow('a');
            x.grow('x');
            x.grow('b');
            x.front('b');
            x.front(-1);
            s.pattern(x, "bab", 3);
            int[] whole = {x.take(0, 1), x.pattern(3), x.grow('b'), x.kth(0), x.pattern(3), x.grow('b'), x.repeated(2),
                x.pattern(3), x.back(), x.common(3), x.pattern(3), x.front('a'), x.oftenest(1), x.pattern(3),
                x.grow('b'), x.maximal(0), x.pattern(3), x.begin(), x.pattern(3), x.grow('a'), x.pattern(3)};
            int[] due = {4, 0, 4, 1, 0, 4, 4, 0, BAD, 1, 0, 4, 5, 0, 0, 2, 0, 12, 0, 4, 1};
            for (int i = 0; i < due.length; i++) {
                s.due("call " + i, whole[i], due[i]);
            }
        });
        s.test(TERMS, "back() undoes the last of them.", () -> {
            TextRows x = Books.of(1, "a".repeat(110) + "b" + "a".repeat(110));
            x.grow('b');
            for (int i = 1; i <= 110; i++) {
                s.due("grow", x.grow('a'), 1);
                s.due("front", x.front('a'), 1);
            }
            s.due("grow beyond the END", x.grow('a'), 0);
            for (int length = 220; length > 0; length--) {
                s.due("back()", x.back(), length);
            }
            s.pattern(x, "b", 1);
            s.due("back()", x.back(), 0);
            s.due("back() of no history", x.back(), BAD);
        });
    }

    private void withoutAnIndex() {
        s.test(TERMS, "(BAD without an index, in all that follows).", () -> {
            allBad(new TextRows());
            TextRows x = new TextRows();
            Books.write(x, "abab", "b");
            allBad(x);
            TextRows y = new TextRows();
            Books.write(y, "abab", "b");
            y.build(0);
            y.clear();
            y.build(1);
            allBad(y);
            s.due("ask() is done without an index", y.ask('a'), 1);
            s.due("count(10) too", y.count(10), 1);
        });
    }

    private void allBad(TextRows x) {
        int[] answers = {x.place(0), x.row(0), x.shared(0), x.before(0), x.step(0), x.rank('a', 0), x.select('a', 0),
            x.byteAt(0), x.document(0, 0), x.document(0, 1), x.document(0, 2), x.alike(0, 0), x.begin(), x.grow('a'),
            x.front('a'), x.back(), x.pattern(0), x.pattern(1), x.pattern(2), x.pattern(3), x.patternByte(0),
            x.at(0), x.sorted(0), x.more(true, -1), x.more(false, -1), x.more(true, 0), x.ranked(-1), x.ranked(0),
            x.times(0), x.take(0, 1), x.near(0), x.nearOf(0, 0), x.nearOf(0, 1), x.answer(), x.answered(0, 0),
            x.different(0), x.different(1), x.kth(0), x.order(), x.repeated(2), x.common(1), x.oftenest(1),
            x.unique(0), x.maximal(-1), x.maximal(0), x.absent(2), x.factor(0, -1, 0), x.factor(0, 0, 0),
            x.word(0, -1), x.word(0, 0), x.square(0), x.mirror(0), x.match(0, 0), x.unwound(0, 0), x.count(0),
            x.count(1), x.count(2), x.count(3), x.count(4), x.count(5), x.count(6), x.count(7)};
        for (int i = 0; i < answers.length; i++) {
            s.due("call " + i, answers[i], BAD);
        }
    }
}
