/** Promises 7 to 16: place, row, shared, before, step, rank, select, byteAt, document, alike. */
final class RowSentences {
    private static final int BAD = TextRows.BAD;
    private static final int NONE = TextRows.NONE;
    private static final int LEAST = Integer.MIN_VALUE;
    private static final int GREATEST = Integer.MAX_VALUE;
    /** Of the book "banana", "", "ana": b0 a1 n2 a3 n4 a5 END6, END7, a8 n9 a10 END11. */
    private static final int N = 12;
    private static final int[] PLACES = {6, 7, 11, 5, 10, 3, 8, 1, 0, 4, 9, 2};
    private static final int[] SHARED = {0, 0, 0, 0, 1, 1, 3, 3, 0, 0, 2, 2};
    private static final int[] BEFORE = {'a', NONE, 'a', 'n', 'n', 'n', NONE, 'b', NONE, 'a', 'a', 'a'};
    private static final int[] STEP = {3, NONE, 4, 9, 10, 11, NONE, 8, NONE, 5, 6, 7};

    private final Sentences s;

    RowSentences(Sentences s) {
        this.s = s;
    }

    void run() {
        place();
        row();
        shared();
        before();
        step();
        rank();
        select();
        byteAt();
        document();
        alike();
    }

    private static TextRows banana(int rate) {
        return Books.of(rate, "banana", "", "ana");
    }

    private void place() {
        s.test(7, "The place of a row, told in STEPS.", () -> {
            int[] stepsOfPlaces = {0, 1, 2, 3, 0, 1, 2, 0, 0, 1, 2, 3};
            TextRows x = banana(4);
            int steps = 0;
            for (int i = 0; i < N; i++) {
                s.due("place(" + i + ")", x.place(i), PLACES[i]);
                steps += stepsOfPlaces[PLACES[i]];
                s.due("count(3) behind it", x.count(3), steps);
            }
            s.due("place(5) once more", x.place(5), 3);
            s.due("count(3) grows each time", x.count(3), steps + 3);
        });
        s.test(7, "told in STEPS.", () -> {
            TextRows x = banana(1);
            TextRows y = banana(64);
            for (int i = 0; i < N; i++) {
                x.place(i);
                y.place(i);
            }
            s.due("rate 1: no place needs a step", x.count(3), 0);
            s.due("rate 64: steps from each document's first place on", y.count(3), 21 + 6);
        });
        s.test(7, "BAD: none such.", () -> {
            TextRows x = banana(64);
            for (int i : Sentences.noneOf(N)) {
                s.due("place(" + i + ")", x.place(i), BAD);
            }
            s.due("no steps for what is not told", x.count(3), 0);
            s.due("place(11)", x.place(11), 2);
        });
    }

    private void row() {
        s.test(8, "The row of a place.", () -> {
            TextRows x = banana(3);
            for (int i = 0; i < N; i++) {
                s.due("row(" + PLACES[i] + ")", x.row(PLACES[i]), i);
            }
            s.due("row(0) of an END alone", Books.of(1, "").row(0), 0);
        });
        s.test(8, "BAD: none such.", () -> {
            TextRows x = banana(3);
            for (int p : Sentences.noneOf(N)) {
                s.due("row(" + p + ")", x.row(p), BAD);
            }
        });
    }

    private void shared() {
        s.test(9, "SHARED(i).", () -> {
            TextRows x = banana(3);
            for (int i = 0; i < N; i++) {
                s.due("shared(" + i + ")", x.shared(i), SHARED[i]);
            }
        });
        s.test(9, "BAD: none such.", () -> {
            TextRows x = banana(3);
            for (int i : Sentences.noneOf(N)) {
                s.due("shared(" + i + ")", x.shared(i), BAD);
            }
        });
    }

    private void before() {
        s.test(10, "BEFORE(i).", () -> {
            TextRows x = banana(3);
            for (int i = 0; i < N; i++) {
                s.due("before(" + i + ")", x.before(i), BEFORE[i]);
            }
            TextRows y = Books.of(1, "\u0000\u00ff");
            s.due("before of the END is 255", y.before(0), 255);
            s.due("before of 255 is 0", y.before(2), 0);
        });
        s.test(10, "BAD: none such.", () -> {
            TextRows x = banana(3);
            for (int i : Sentences.noneOf(N)) {
                s.due("before(" + i + ")", x.before(i), BAD);
            }
        });
    }

    private void step() {
        s.test(11, "The row of the place in front of row i's place.", () -> {
            TextRows x = banana(3);
            for (int i = 0; i < N; i++) {
                s.due("step(" + i + ")", x.step(i), STEP[i]);
            }
            s.due("count(3): it makes no steps", x.count(3), 0);
        });
        s.test(11, "NONE: that is its document's first one.", () -> {
            TextRows x = Books.of(1, "b", "", "a");
            s.due("the book's first place", x.step(x.row(0)), NONE);
            s.due("the END of a document without bytes", x.step(x.row(2)), NONE);
            s.due("the last document's first place", x.step(x.row(3)), NONE);
            s.due("the END behind one byte", x.step(x.row(4)), x.row(3));
        });
        s.test(11, "BAD: none such.", () -> {
            TextRows x = banana(3);
            for (int i : Sentences.noneOf(N)) {
                s.due("step(" + i + ")", x.step(i), BAD);
            }
        });
    }

    private void rank() {
        s.test(12, "How many of the rows 0 .. i - 1 (i of 0 .. n) have a byte BEFORE them.", () -> {
            TextRows x = banana(3);
            int[] ranks = {0, 1, 1, 2, 2, 2, 2, 2, 2, 2, 3, 4, 5};
            for (int i = 0; i <= N; i++) {
                s.due("rank('a', " + i + ")", x.rank('a', i), ranks[i]);
            }
            s.due("of a byte that stands nowhere", x.rank('c', N), 0);
            TextRows y = Books.of(1, "\u0000\u00ff");
            s.due("of 0", y.rank(0, 3), 1);
            s.due("of 255", y.rank(255, 3), 1);
            s.due("of a document without bytes", Books.of(1, "").rank(0, 1), 0);
        });
        s.test(12, "BAD: none such.", () -> {
            TextRows x = banana(3);
            for (int i : new int[] {-1, N + 1, LEAST, GREATEST}) {
                s.due("rank('a', " + i + ")", x.rank('a', i), BAD);
            }
            for (int c : new int[] {-1, NONE, 256, LEAST, GREATEST}) {
                s.due("rank(" + c + ", 0)", x.rank(c, 0), BAD);
                s.due("rank(" + c + ", n)", x.rank(c, N), BAD);
            }
        });
    }

    private void select() {
        s.test(13, "The k-th row (k from 0) that has a byte BEFORE it.", () -> {
            TextRows x = banana(3);
            int[] rows = {0, 2, 9, 10, 11};
            for (int k = 0; k < rows.length; k++) {
                s.due("select('a', " + k + ")", x.select('a', k), rows[k]);
            }
            s.due("select('b', 0)", x.select('b', 0), 7);
            TextRows y = Books.of(1, "\u0000\u00ff");
            s.due("of 255", y.select(255, 0), 0);
            s.due("of 0", y.select(0, 0), 2);
        });
        s.test(13, "BAD: none such.", () -> {
            TextRows x = banana(3);
            for (int k : Sentences.noneOf(5)) {
                s.due("select('a', " + k + ")", x.select('a', k), BAD);
            }
            s.due("of a byte that stands nowhere", x.select('c', 0), BAD);
            for (int c : new int[] {-1, NONE, 256, LEAST, GREATEST}) {
                s.due("select(" + c + ", 0)", x.select(c, 0), BAD);
            }
        });
    }

    private void byteAt() {
        s.test(14, "The byte at a place;", () -> {
            TextRows x = Books.of(1, "\u0000\u00ff", "\u007f\u0080");
            int[] bytes = {0, 255, NONE, 127, 128, NONE};
            for (int p = 0; p < bytes.length; p++) {
                s.due("byteAt(" + p + ")", x.byteAt(p), bytes[p]);
            }
        });
        s.test(14, "NONE: an END.", () -> {
            TextRows x = banana(3);
            s.due("behind bytes", x.byteAt(6), NONE);
            s.due("of a document without bytes", x.byteAt(7), NONE);
            s.due("the last place", x.byteAt(11), NONE);
        });
        s.test(14, "BAD: none such.", () -> {
            TextRows x = banana(3);
            for (int p : Sentences.noneOf(N)) {
                s.due("byteAt(" + p + ")", x.byteAt(p), BAD);
            }
        });
    }

    private void document() {
        s.test(15, "Of a document: 0 its first place, 1 how many bytes it has;", () -> {
            TextRows x = banana(3);
            int[] firsts = {0, 7, 8};
            int[] lengths = {6, 0, 3};
            for (int d = 0; d < 3; d++) {
                s.due("document(" + d + ", 0)", x.document(d, 0), firsts[d]);
                s.due("document(" + d + ", 1)", x.document(d, 1), lengths[d]);
            }
        });
        s.test(15, "of a place: 2 its document.", () -> {
            TextRows x = banana(3);
            int[] owners = {0, 0, 0, 0, 0, 0, 0, 1, 2, 2, 2, 2};
            for (int p = 0; p < N; p++) {
                s.due("document(" + p + ", 2)", x.document(p, 2), owners[p]);
            }
        });
        s.test(15, "BAD: none such.", () -> {
            TextRows x = banana(3);
            for (int d : Sentences.noneOf(3)) {
                s.due("document(" + d + ", 0)", x.document(d, 0), BAD);
                s.due("document(" + d + ", 1)", x.document(d, 1), BAD);
            }
            for (int p : Sentences.noneOf(N)) {
                s.due("document(" + p + ", 2)", x.document(p, 2), BAD);
            }
            for (int what : new int[] {-1, 3, LEAST, GREATEST}) {
                s.due("document(0, " + what + ")", x.document(0, what), BAD);
            }
        });
    }

    private void alike() {
        s.test(16, "How many bytes the suffixes of two places have alike at their beginnings", () -> {
            TextRows x = banana(3);
            s.due("of one document", x.alike(1, 3), 3);
            s.due("the other way round", x.alike(3, 1), 3);
            s.due("of two documents", x.alike(1, 8), 3);
            s.due("none", x.alike(0, 1), 0);
            s.due("an END and a byte", x.alike(6, 0), 0);
            s.due("two ENDs", x.alike(6, 11), 0);
            s.due("two documents alike, up to their ENDs", Books.of(1, "ab", "ab", "ab").alike(0, 6), 2);
        });
        s.test(16, "(a place with itself: all of them).", () -> {
            TextRows x = banana(3);
            s.due("the first place", x.alike(0, 0), 6);
            s.due("the last byte", x.alike(10, 10), 1);
            s.due("an END", x.alike(7, 7), 0);
        });
        s.test(16, "BAD: none such.", () -> {
            TextRows x = banana(3);
            for (int p : Sentences.noneOf(N)) {
                s.due("alike(" + p + ", 0)", x.alike(p, 0), BAD);
                s.due("alike(0, " + p + ")", x.alike(0, p), BAD);
                s.due("alike(" + p + ", " + p + ")", x.alike(p, p), BAD);
            }
        });
    }
}
