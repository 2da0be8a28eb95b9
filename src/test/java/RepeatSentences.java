/** Promises 34 to 49: what repeats, what is most often, what is absent, pieces, counts. */
final class RepeatSentences {
    private static final int BAD = TextRows.BAD;
    private static final int NONE = TextRows.NONE;
    private static final int LEAST = Integer.MIN_VALUE;
    private static final int GREATEST = Integer.MAX_VALUE;

    private final Sentences s;

    RepeatSentences(Sentences s) {
        this.s = s;
    }

    void run() {
        different();
        kth();
        order();
        repeated();
        repeatedRefused();
        common();
        commonLikewise();
        oftenest();
        oftenestRefused();
        unique();
        maximalRepeats();
        maximal();
        maximalRefused();
        absent();
        absentRefused();
        factors();
        factor();
        factorRefused();
        words();
        word();
        square();
        mirror();
        match();
        matchRefused();
        countOfIndex();
        countOfRows();
        countOfBook();
        unwound();
    }

    private void different() {
        s.test(34, "How many different substrings of so many bytes there are;", () -> {
            TextRows x = Books.of(1, "abab", "ba");
            int[] due = {7, 2, 2, 2, 1, 0};
            for (int length = 1; length < due.length; length++) {
                s.due("different(" + length + ")", x.different(length), due[length]);
            }
            s.due("different of the greatest length", x.different(GREATEST), 0);
            s.due("different(1) with no bytes", Books.of(1, "", "").different(1), 0);
        });
        s.test(34, "of all lengths for 0.", () -> {
            s.due("different(0)", Books.of(1, "abab", "ba").different(0), 7);
            s.due("different(0) with no bytes", Books.of(1, "", "").different(0), 0);
            TextRows x = Books.of(1, "a".repeat(2999));
            s.due("different(0) of a full book", x.different(0), 2999);
            s.due("different(2999)", x.different(2999), 1);
            s.due("different(3000)", x.different(3000), 0);
        });
        s.test(34, "BAD: length is below 0.", () -> {
            TextRows x = Books.of(1, "abab", "ba");
            s.due("different(-1)", x.different(-1), BAD);
            s.due("different of the least length", x.different(LEAST), BAD);
        });
    }

    private void kth() {
        String sentence = "The pattern becomes the k-th substring of all in their order (k from 0): its length; "
                + "no history.";
        s.test(35, sentence, () -> {
            TextRows x = Books.of(1, "abab", "ba");
            String[] all = {"a", "ab", "aba", "abab", "b", "ba", "bab"};
            for (int k = 0; k < all.length; k++) {
                x.front('b');
                s.due("kth(" + k + ")", x.kth(k), all[k].length());
                s.pattern(x, all[k], 0);
            }
            s.due("rows of bab", x.pattern(2), 1);
            x.kth(5);
            s.due("rows of ba", x.pattern(2), 2);
            s.due("back()", x.back(), BAD);
        });
        s.test(35, "BAD, changing nothing: none such.", () -> {
            for (int k : Sentences.noneOf(7)) {
                TextRows x = Books.of(1, "abab", "ba");
                x.grow('b');
                s.unchanged(x, "kth(" + k + ")", () -> x.kth(k), BAD);
            }
            TextRows y = Books.of(1, "");
            s.unchanged(y, "kth(0) with no bytes", () -> y.kth(0), BAD);
        });
    }

    private void order() {
        s.test(36, "How many substrings are less than the pattern", () -> {
            TextRows x = Books.of(1, "abab", "ba");
            int[][] taken = {{0, 1}, {0, 2}, {0, 3}, {0, 4}, {1, 1}, {1, 2}, {1, 3}};
            for (int k = 0; k < taken.length; k++) {
                x.take(taken[k][0], taken[k][1]);
                s.due("order() of substring " + k, x.order(), k);
            }
            x.begin();
            x.front('a');
            x.front('b');
            s.due("order() of one that has grown", x.order(), 5);
            s.pattern(x, "ba", 2);
            TextRows y = Books.of(1, "\u00ff", "\u0080", "\u007f");
            y.take(0, 1);
            s.due("order() of the greatest byte", y.order(), 2);
        });
        s.test(36, "(0 for the empty one).", () -> {
            TextRows x = Books.of(1, "abab", "ba");
            s.due("order()", x.order(), 0);
            x.kth(6);
            x.begin();
            s.due("order() behind begin()", x.order(), 0);
            s.due("order() with no bytes", Books.of(1, "").order(), 0);
        });
    }

    private void repeated() {
        s.test(37, "The pattern becomes the longest substring that stands at q (2 or more) places or more;", () -> {
            TextRows x = Books.of(1, "xababa", "ab");
            s.due("repeated(2)", x.repeated(2), 3);
            s.pattern(x, "aba", 0);
            s.due("its rows, which overlap", x.pattern(2), 2);
            s.due("repeated(3)", x.repeated(3), 2);
            s.pattern(x, "ab", 0);
            s.due("repeated(4)", x.repeated(4), 1);
            s.pattern(x, "a", 0);
            s.due("repeated(2) of documents alike", Books.of(1, "ab", "ab").repeated(2), 2);
            s.due("repeated(2999) of a full book", Books.of(1, "a".repeat(2999)).repeated(2999), 1);
            s.due("repeated(2) of a full book", Books.of(1, "a".repeat(2999)).repeated(2), 2998);
        });
        s.test(37, "of several the first in order: its length;", () -> {
            TextRows x = Books.of(1, "zbzb", "yaya", "\u00ff\u00ff\u00ff");
            s.due("repeated(2)", x.repeated(2), 2);
            s.pattern(x, "ya", 0);
            s.due("repeated(3)", x.repeated(3), 1);
            s.pattern(x, "\u00ff", 0);
        });
        s.test(37, "no history.", () -> {
            TextRows x = Books.of(1, "abab");
            x.grow('b');
            s.due("repeated(2)", x.repeated(2), 2);
            s.pattern(x, "ab", 0);
            s.due("back()", x.back(), BAD);
        });
    }

    private void repeatedRefused() {
        s.test(37, "0, changing nothing: none.", () -> {
            TextRows x = Books.of(1, "abab");
            x.grow('b');
            s.unchanged(x, "repeated(3)", () -> x.repeated(3), 0);
            s.unchanged(x, "repeated of the greatest number", () -> x.repeated(GREATEST), 0);
            TextRows y = Books.of(1, "", "");
            s.unchanged(y, "repeated(2) with no bytes", () -> y.repeated(2), 0);
            TextRows z = Books.of(1, "ab", "c");
            s.unchanged(z, "repeated(2) of what stands once", () -> z.repeated(2), 0);
        });
        s.test(37, "BAD: another q.", () -> {
            for (int q : new int[] {1, 0, -1, LEAST}) {
                TextRows x = Books.of(1, "abab");
                x.grow('b');
                s.unchanged(x, "repeated(" + q + ")", () -> x.repeated(q), BAD);
            }
        });
    }

    private void common() {
        s.test(38, "Likewise of those that stand in q (1 or more) documents or more.", () -> {
            TextRows x = Books.of(1, "abab", "", "bab", "ab");
            s.due("common(1)", x.common(1), 4);
            s.pattern(x, "abab", 0);
            s.due("common(2)", x.common(2), 3);
            s.pattern(x, "bab", 0);
            s.due("common(3)", x.common(3), 2);
            s.pattern(x, "ab", 0);
            s.due("twice in one document is not in two", Books.of(1, "abab", "c").common(2), 0);
            s.due("the longest one of all", Books.of(1, "a".repeat(2999)).common(1), 2999);
            String[] forty = new String[40];
            java.util.Arrays.fill(forty, "ab");
            s.due("common(40)", Books.of(1, forty).common(40), 2);
            s.due("common(41)", Books.of(1, forty).common(41), 0);
        });
    }

    private void commonLikewise() {
        s.test(38, "Likewise", () -> {
            TextRows x = Books.of(1, "zb", "ya");
            x.grow('b');
            s.due("of several the first in order", x.common(1), 2);
            s.pattern(x, "ya", 0);
            s.due("no history", x.back(), BAD);
            x.grow('b');
            x.begin();
            x.grow('b');
            s.unchanged(x, "0, changing nothing: common(2)", () -> x.common(2), 0);
            s.unchanged(x, "0: common of the greatest number", () -> x.common(GREATEST), 0);
            TextRows y = Books.of(1, "", "");
            s.unchanged(y, "0: common(1) with no bytes", () -> y.common(1), 0);
            for (int q : new int[] {0, -1, LEAST}) {
                TextRows z = Books.of(1, "ab", "b");
                z.grow('b');
                s.unchanged(z, "BAD: common(" + q + ")", () -> z.common(q), BAD);
            }
        });
    }

    private void oftenest() {
        String sentence = "of all substrings of so many bytes the one that stands at most places;";
        s.test(39, sentence, () -> {
            TextRows x = Books.of(1, "aabab", "bab");
            s.due("oftenest(1)", x.oftenest(1), 4);
            s.pattern(x, "a", 0);
            s.due("oftenest(2)", x.oftenest(2), 3);
            s.pattern(x, "ab", 0);
            s.due("oftenest(3)", x.oftenest(3), 2);
            s.pattern(x, "bab", 0);
            s.due("oftenest(5): a whole document", x.oftenest(5), 1);
            s.pattern(x, "aabab", 0);
            s.due("oftenest(1499) of a full book", Books.of(1, "a".repeat(2999)).oftenest(1499), 1501);
        });
        s.test(39, "of several the first in order: at how many.", () -> {
            TextRows x = Books.of(1, "zbzb", "yaya", "\u00ff\u00ff");
            s.due("oftenest(1)", x.oftenest(1), 2);
            s.pattern(x, "a", 0);
            s.due("oftenest(2)", x.oftenest(2), 2);
            s.pattern(x, "ya", 0);
            s.due("oftenest(4)", x.oftenest(4), 1);
            s.pattern(x, "yaya", 0);
        });
        s.test(39, "Likewise:", () -> {
            TextRows x = Books.of(1, "abab");
            x.grow('b');
            s.due("oftenest(2)", x.oftenest(2), 2);
            s.pattern(x, "ab", 0);
            s.due("no history", x.back(), BAD);
        });
    }

    private void oftenestRefused() {
        s.test(39, "0, changing nothing: none.", () -> {
            TextRows x = Books.of(1, "abab");
            x.grow('b');
            s.unchanged(x, "oftenest(5)", () -> x.oftenest(5), 0);
            s.unchanged(x, "oftenest of the greatest length", () -> x.oftenest(GREATEST), 0);
            TextRows y = Books.of(1, "", "");
            s.unchanged(y, "oftenest(1) with no bytes", () -> y.oftenest(1), 0);
        });
        s.test(39, "BAD: length is below 1.", () -> {
            for (int length : new int[] {0, -1, LEAST}) {
                TextRows x = Books.of(1, "abab");
                x.grow('b');
                s.unchanged(x, "oftenest(" + length + ")", () -> x.oftenest(length), BAD);
            }
        });
    }

    private void unique() {
        s.test(40, "The least length of a substring at a place that stands nowhere else.", () -> {
            TextRows x = Books.of(1, "abab", "c", "abc");
            // a0 b1 a2 b3 END4, c5 END6, a7 b8 c9 END10
            int[] due = {3, 2, 0, 0, BAD, 0, BAD, 3, 2, 0, BAD};
            for (int p = 0; p < due.length; p++) {
                s.due("unique(" + p + ")", x.unique(p), due[p]);
            }
            s.due("one byte is enough", Books.of(1, "ab").unique(1), 1);
            s.due("it may be 0", Books.of(1, "\u0000a").unique(0), 1);
            s.due("all of a full book", Books.of(1, "a".repeat(2999)).unique(0), 2999);
        });
        s.test(40, "0: there is none.", () -> {
            TextRows x = Books.of(1, "ab", "ab", "xab");
            s.due("a document alike", x.unique(0), 0);
            s.due("another one's ending", x.unique(3), 0);
            s.due("the ending of all", x.unique(8), 0);
            s.due("behind the first of many", Books.of(1, "a".repeat(2999)).unique(1), 0);
        });
        s.test(40, "BAD: none such", () -> {
            TextRows x = Books.of(1, "ab", "", "c");
            for (int p : Sentences.noneOf(6)) {
                s.due("unique(" + p + ")", x.unique(p), BAD);
            }
        });
        s.test(40, "it is an END.", () -> {
            TextRows x = Books.of(1, "ab", "", "c");
            for (int p : new int[] {2, 3, 5}) {
                s.due("unique(" + p + ")", x.unique(p), BAD);
            }
        });
    }

    private void maximalRepeats() {
        s.test(41, "A MAXIMAL REPEAT stands at two or more places;", () -> {
            s.due("none of what stands once", Books.of(1, "abc").maximal(-1), 0);
            s.due("none with no bytes: the empty row is no substring", Books.of(1, "", "").maximal(-1), 0);
            s.due("two places are enough", Books.of(1, "axa").maximal(-1), 1);
            s.due("in two documents", Books.of(1, "a", "a").maximal(-1), 1);
            s.due("overlapping: a aa aaa", Books.of(1, "aaaa").maximal(-1), 3);
        });
        s.test(41, "what comes behind it is not one byte alike at all of these, nor what comes before it", () -> {
            TextRows x = Books.of(1, "1xay2", "3xay4");
            s.due("xay alone: what is shorter goes on alike", x.maximal(-1), 1);
            x.maximal(0);
            s.pattern(x, "xay", 0);
            TextRows y = Books.of(1, "pabq", "pacq");
            // pa (b, c behind; nothing in front), q (END behind; b, c in front)
            s.due("two", y.maximal(-1), 2);
            y.maximal(0);
            s.pattern(y, "pa", 0);
            y.maximal(1);
            s.pattern(y, "q", 0);
            TextRows z = Books.of(1, "1ab", "1ac", "2ab");
            // a (b b c; 1 1 2), ab (END; 1 2), 1a (b c; nothing), b: always a in front, 1: always a behind
            s.due("three", z.maximal(-1), 3);
        });
        s.test(41, "(an END behind, or nothing in front, is like nothing).", () -> {
            TextRows x = Books.of(1, "xay", "xay");
            s.due("ENDs behind, nothing in front at all places", x.maximal(-1), 1);
            s.due("its length", x.maximal(0), 3);
            TextRows y = Books.of(1, "ab", "cab");
            s.due("nothing in front, and c; ENDs behind", y.maximal(-1), 1);
            s.due("its length", y.maximal(0), 2);
            TextRows z = Books.of(1, "ab", "abc");
            s.due("an END behind, and c; nothing in front", z.maximal(-1), 1);
            s.due("its length", z.maximal(0), 2);
        });
    }

    private void maximal() {
        s.test(41, "The pattern becomes the k-th of them in order: its length; no history.", () -> {
            TextRows x = Books.of(1, "mississippi");
            String[] all = {"i", "issi", "p", "s"};
            for (int k = 0; k < all.length; k++) {
                x.begin();
                x.grow('s');
                s.due("maximal(" + k + ")", x.maximal(k), all[k].length());
                s.pattern(x, all[k], 0);
            }
            TextRows z = Books.of(1, "1abd2", "3abd4", "5abe6", "7ac8");
            s.due("maximal(-1)", z.maximal(-1), 3);
            for (int k = 0; k < 3; k++) {
                s.due("maximal(" + k + ") where each begins with the last one", z.maximal(k), k + 1);
                s.pattern(z, "abd".substring(0, k + 1), 0);
            }
            TextRows y = Books.of(1, "aaaa");
            for (int k = 0; k < 3; k++) {
                s.due("maximal(" + k + ") of aaaa", y.maximal(k), k + 1);
                s.due("its rows", y.pattern(2), 4 - k);
            }
            s.due("back()", y.back(), BAD);
        });
        s.test(41, "k = - 1: how many, changing nothing.", () -> {
            TextRows x = Books.of(1, "mississippi");
            x.grow('s');
            s.unchanged(x, "maximal(-1)", () -> x.maximal(-1), 4);
            TextRows y = Books.of(1, "");
            s.unchanged(y, "maximal(-1) with no bytes", () -> y.maximal(-1), 0);
        });
    }

    private void maximalRefused() {
        s.test(41, "BAD: none such.", () -> {
            for (int k : new int[] {-2, 4, 5, LEAST, GREATEST}) {
                TextRows x = Books.of(1, "mississippi");
                x.grow('s');
                s.unchanged(x, "maximal(" + k + ")", () -> x.maximal(k), BAD);
            }
            TextRows y = Books.of(1, "abc");
            s.unchanged(y, "maximal(0) where there is none", () -> y.maximal(0), BAD);
        });
    }

    private void absent() {
        String sentence = "A row of two or more bytes is ABSENT, if it stands nowhere, but what it has without its "
                + "first "
                + "byte does, and what it has without its last one.";
        s.test(42, sentence, () -> {
            TextRows x = Books.of(1, "abab", "c");
            s.due("absent(2): aa ac bb bc ca cb cc", x.absent(2), 7);
            s.due("absent(3): none", x.absent(3), 0);
            s.due("absent(4): baba", x.absent(4), 1);
            s.due("absent(5): none", x.absent(5), 0);
            TextRows y = Books.of(1, "aaa");
            s.due("absent(3) of aaa", y.absent(3), 0);
            s.due("absent(4): aaaa, one longer than the document", y.absent(4), 1);
            s.due("absent(5) of aaa", y.absent(5), 0);
            s.due("no row stands across an END: aa ba bb bc ca cb cc ac", Books.of(1, "ab", "c").absent(2), 8);
        });
        s.test(42, "How many there are of so many bytes.", () -> {
            StringBuilder all = new StringBuilder();
            for (char c = 0; c < 256; c++) {
                all.append(c);
            }
            s.due("absent(2) of all bytes", Books.of(1, all.toString()).absent(2), 256 * 256 - 255);
            s.due("absent(3) of all bytes", Books.of(1, all.toString()).absent(3), 0);
            s.due("absent(3): all eight of a and b", Books.of(1, "aa", "ab", "bb", "ba").absent(3), 8);
            TextRows x = Books.of(1, "a".repeat(2999));
            s.due("absent(3000) of a full book", x.absent(3000), 1);
            s.due("absent(3001) of a full book", x.absent(3001), 0);
            s.due("absent(2) with no bytes", Books.of(1, "", "").absent(2), 0);
        });
    }

    private void absentRefused() {
        s.test(42, "BAD: length is below 2.", () -> {
            TextRows x = Books.of(1, "abab", "c");
            for (int length : new int[] {1, 0, -1, LEAST}) {
                s.due("absent(" + length + ")", x.absent(length), BAD);
            }
            s.due("absent of the greatest length", x.absent(GREATEST), 0);
        });
    }

    private void factorsAre(TextRows x, int d, int[][] due) {
        s.due("factor(" + d + ", -1, 0)", x.factor(d, -1, 0), due.length);
        for (int k = 0; k < due.length; k++) {
            for (int what = 0; what < 3; what++) {
                s.due("factor(" + d + ", " + k + ", " + what + ")", x.factor(d, k, what), due[k][what]);
            }
        }
        s.due("one too many", x.factor(d, due.length, 0), BAD);
    }

    private void factors() {
        s.test(43, "A document's FACTORS, one behind the other from its first place on:", () -> {
            TextRows x = Books.of(1, "abab", "", "aababz");
            factorsAre(x, 0, new int[][] {{0, 1, NONE}, {1, 1, NONE}, {2, 2, 0}});
            factorsAre(x, 1, new int[][] {});
            factorsAre(x, 2, new int[][] {{6, 1, 0}, {7, 4, 0}, {11, 1, NONE}});
        });
        String sentence = "at each place the longest substring that also stands at a lesser place (of any document; "
                + "both may overlap);";
        s.test(43, sentence, () -> {
            factorsAre(Books.of(1, "aaaa"), 0, new int[][] {{0, 1, NONE}, {1, 3, 0}});
            factorsAre(Books.of(1, "abcabcab"), 0, new int[][] {{0, 1, NONE}, {1, 1, NONE}, {2, 1, NONE}, {3, 5, 0}});
            TextRows x = Books.of(1, "ab", "abab");
            factorsAre(x, 0, new int[][] {{0, 1, NONE}, {1, 1, NONE}});
            factorsAre(x, 1, new int[][] {{3, 2, 0}, {5, 2, 0}});
            factorsAre(Books.of(1, "a", "b", "ab"), 2, new int[][] {{4, 1, 0}, {5, 1, 2}});
        });
        s.test(43, "without one the byte alone.", () -> {
            factorsAre(Books.of(1, "ab\u0000\u00ff"), 0,
                    new int[][] {{0, 1, NONE}, {1, 1, NONE}, {2, 1, NONE}, {3, 1, NONE}});
            factorsAre(Books.of(1, "ab", "bca"), 1, new int[][] {{3, 1, 1}, {4, 1, NONE}, {5, 1, 0}});
        });
    }

    private void factor() {
        s.test(43, "Of the k-th one: 0 its place, 1 its length, 2 the least such place (NONE: the byte alone).", () -> {
            factorsAre(Books.of(1, "abxab", "yab"), 1, new int[][] {{6, 1, NONE}, {7, 2, 0}});
            factorsAre(Books.of(1, "xabyab", "abz"), 1, new int[][] {{7, 2, 1}, {9, 1, NONE}});
            TextRows x = Books.of(1, "a".repeat(2999));
            s.due("factor(0, 1, 0) of a full book", x.factor(0, 1, 0), 1);
            s.due("factor(0, 1, 1) of a full book", x.factor(0, 1, 1), 2998);
            s.due("factor(0, 1, 2) of a full book", x.factor(0, 1, 2), 0);
        });
        s.test(43, "k = - 1: how many (what is not looked at).", () -> {
            TextRows x = Books.of(1, "abab", "");
            for (int what : new int[] {0, 1, 2, 3, -1, LEAST, GREATEST}) {
                s.due("factor(0, -1, " + what + ")", x.factor(0, -1, what), 3);
                s.due("factor(1, -1, " + what + ")", x.factor(1, -1, what), 0);
            }
        });
    }

    private void factorRefused() {
        s.test(43, "BAD: none such.", () -> {
            TextRows x = Books.of(1, "abab", "");
            for (int d : Sentences.noneOf(2)) {
                s.due("factor(" + d + ", 0, 0)", x.factor(d, 0, 0), BAD);
                s.due("factor(" + d + ", -1, 0)", x.factor(d, -1, 0), BAD);
            }
            for (int k : new int[] {-2, 3, 4, LEAST, GREATEST}) {
                s.due("factor(0, " + k + ", 0)", x.factor(0, k, 0), BAD);
            }
            s.due("factor(1, 0, 0) of no bytes", x.factor(1, 0, 0), BAD);
            for (int what : Sentences.noneOf(3)) {
                s.due("factor(0, 0, " + what + ")", x.factor(0, 0, what), BAD);
            }
        });
    }

    private void wordsAre(TextRows x, int d, int... due) {
        s.due("word(" + d + ", -1)", x.word(d, -1), due.length);
        for (int k = 0; k < due.length; k++) {
            s.due("word(" + d + ", " + k + ")", x.word(d, k), due[k]);
        }
        s.due("one too many", x.word(d, due.length), BAD);
    }

    private void words() {
        String sentence = "A document's FALLING WORDS: it is cut in just one way into words of which each is less, by "
                + "bytes, than all its own endings but itself, and none is less than the one behind it";
        s.test(44, sentence, () -> {
            wordsAre(Books.of(1, "banana"), 0, 0, 1, 3, 5);
            wordsAre(Books.of(1, "abcd"), 0, 0);
            wordsAre(Books.of(1, "dcba"), 0, 0, 1, 2, 3);
            wordsAre(Books.of(1, "aaa"), 0, 0, 1, 2);
            wordsAre(Books.of(1, "abab"), 0, 0, 2);
            wordsAre(Books.of(1, "baab"), 0, 0, 1);
            wordsAre(Books.of(1, "aabab"), 0, 0);
            wordsAre(Books.of(1, "\u007f\u0080"), 0, 0);
            wordsAre(Books.of(1, "\u0080\u007f"), 0, 0, 1);
            wordsAre(Books.of(1, "\u0000\u00ff\u0000"), 0, 0, 2);
            TextRows x = Books.of(1, "a".repeat(2999));
            s.due("word(0, -1) of a full book", x.word(0, -1), 2999);
            s.due("word(0, 2998) of a full book", x.word(0, 2998), 2998);
        });
        s.test(44, "(a word that another one begins with is less).", () -> {
            wordsAre(Books.of(1, "aba"), 0, 0, 2);
            wordsAre(Books.of(1, "aab"), 0, 0);
            wordsAre(Books.of(1, "abaab"), 0, 0, 2);
            wordsAre(Books.of(1, "ababa"), 0, 0, 2, 4);
        });
    }

    private void word() {
        s.test(44, "The place of the k-th.", () -> {
            TextRows x = Books.of(1, "x", "ba", "", "ab");
            wordsAre(x, 0, 0);
            wordsAre(x, 1, 2, 3);
            wordsAre(x, 3, 6);
        });
        s.test(44, "k = - 1: how many.", () -> {
            TextRows x = Books.of(1, "x", "ba", "");
            s.due("word(0, -1)", x.word(0, -1), 1);
            s.due("word(1, -1)", x.word(1, -1), 2);
            s.due("word(2, -1) of no bytes", x.word(2, -1), 0);
        });
        s.test(44, "BAD: none such.", () -> {
            TextRows x = Books.of(1, "x", "ba", "");
            for (int k : new int[] {-2, 2, 3, LEAST, GREATEST}) {
                s.due("word(1, " + k + ")", x.word(1, k), BAD);
            }
            s.due("word(2, 0) of no bytes", x.word(2, 0), BAD);
            for (int d : Sentences.noneOf(3)) {
                s.due("word(" + d + ", 0)", x.word(d, 0), BAD);
                s.due("word(" + d + ", -1)", x.word(d, -1), BAD);
            }
        });
    }

    private void square() {
        s.test(45, "The least number of bytes that stand at a place, and behind it once more.", () -> {
            TextRows x = Books.of(1, "abaabaab", "aab", "aaaa", "abab");
            // 0 to 7 END8, 9 to 11 END12, 13 to 16 END17, 18 to 21 END22
            int[] due = {3, 3, 1, 0, 0, 1, 0, 0, 0, 1, 0, 0, 0, 1, 1, 1, 0, 0, 2, 0, 0, 0, 0};
            for (int p = 0; p < due.length; p++) {
                s.due("square(" + p + ")", x.square(p), due[p]);
            }
            s.due("the least, not the greatest", Books.of(1, "aabaab").square(0), 1);
            s.due("what stands once more comes in a later row", Books.of(1, "aab").square(0), 1);
            s.due("with another document's row between the two", Books.of(1, "aa", "a").square(0), 1);
            String half = "c" + "a".repeat(1497) + "b";
            s.due("1,499 bytes, twice", Books.of(1, half + half).square(0), 1499);
        });
        s.test(45, "0: none", () -> {
            TextRows x = Books.of(1, "ab", "ab", "", "aba", "a");
            for (int p : new int[] {0, 1, 3, 4, 7, 8, 9, 11}) {
                s.due("square(" + p + "): none, not across ENDs", x.square(p), 0);
            }
        });
        s.test(45, "or an END.", () -> {
            TextRows x = Books.of(1, "aa", "", "");
            for (int p : new int[] {2, 3, 4}) {
                s.due("square(" + p + ")", x.square(p), 0);
            }
        });
        s.test(45, "BAD: none such.", () -> {
            TextRows x = Books.of(1, "ab", "", "c");
            for (int p : Sentences.noneOf(6)) {
                s.due("square(" + p + ")", x.square(p), BAD);
            }
        });
    }

    private void mirror() {
        s.test(46, "The greatest length of a substring at a place that is the same from its end to its "
                + "beginning.", () -> {
            TextRows x = Books.of(1, "abaabaab", "aab", "abcba");
            // 0 to 7 END8, 9 to 11 END12, 13 to 17 END18
            int[] due = {6, 7, 5, 3, 4, 2, 1, 1, 0, 2, 1, 1, 0, 5, 3, 1, 1, 1, 0};
            for (int p = 0; p < due.length; p++) {
                s.due("mirror(" + p + ")", x.mirror(p), due[p]);
            }
            TextRows y = Books.of(1, "aaaaa");
            for (int p = 0; p <= 5; p++) {
                s.due("mirror(" + p + ") of aaaaa", y.mirror(p), 5 - p);
            }
            s.due("a byte alone", Books.of(1, "ab").mirror(0), 1);
            s.due("not across ENDs", Books.of(1, "ab", "ba").mirror(0), 1);
            s.due("not across ENDs, from a byte on", Books.of(1, "a", "a").mirror(0), 1);
            s.due("all of a full book", Books.of(1, "a".repeat(2999)).mirror(0), 2999);
            s.due("all of a full book, from its second place on", Books.of(1, "a".repeat(2999)).mirror(1), 2998);
        });
        s.test(46, "0: an END.", () -> {
            TextRows x = Books.of(1, "aa", "", "aa");
            s.due("mirror(2)", x.mirror(2), 0);
            s.due("mirror(3)", x.mirror(3), 0);
            s.due("mirror(6)", x.mirror(6), 0);
        });
        s.test(46, "BAD: none such.", () -> {
            TextRows x = Books.of(1, "ab", "", "c");
            for (int p : Sentences.noneOf(6)) {
                s.due("mirror(" + p + ")", x.mirror(p), BAD);
            }
        });
    }

    private void match() {
        s.test(47, "The greatest length of a substring at a place that also stands in a document", () -> {
            TextRows x = Books.of(1, "abcd", "xbcx", "", "abc");
            // a0 b1 c2 d3 END4, x5 b6 c7 x8 END9, END10, a11 b12 c13 END14
            s.due("in the middle of another one", x.match(1, 1), 2);
            s.due("the other way round", x.match(6, 0), 2);
            s.due("all of another one", x.match(11, 0), 3);
            s.due("not beyond the other one's END", x.match(0, 3), 3);
            s.due("documents alike", Books.of(1, "ab", "ab").match(3, 0), 2);
            s.due("at another one's last byte", Books.of(1, "b", "a", "ab").match(0, 2), 1);
        });
        s.test(47, "(its own: at another place).", () -> {
            TextRows x = Books.of(1, "abab", "abab");
            s.due("match(0, 0)", x.match(0, 0), 2);
            s.due("match(2, 0)", x.match(2, 0), 2);
            s.due("match(0, 1): another one's", x.match(0, 1), 4);
            s.due("match(5, 1)", x.match(5, 1), 2);
            s.due("overlapping", Books.of(1, "aaaa").match(0, 0), 3);
            s.due("a byte that stands once", Books.of(1, "ab").match(0, 0), 0);
        });
    }

    private void matchRefused() {
        s.test(47, "0: none.", () -> {
            TextRows x = Books.of(1, "abc", "", "xa");
            s.due("another byte", x.match(1, 2), 0);
            s.due("a document without bytes", x.match(0, 1), 0);
            s.due("an END", x.match(3, 0), 0);
            s.due("an END and another document", x.match(3, 2), 0);
            s.due("the END of a document without bytes", x.match(4, 1), 0);
        });
        s.test(47, "BAD: none such.", () -> {
            TextRows x = Books.of(1, "abc", "", "xa");
            for (int p : Sentences.noneOf(8)) {
                s.due("match(" + p + ", 0)", x.match(p, 0), BAD);
            }
            for (int d : Sentences.noneOf(3)) {
                s.due("match(0, " + d + ")", x.match(0, d), BAD);
                s.due("match(3, " + d + ") of an END", x.match(3, d), BAD);
            }
        });
    }

    private void countOfIndex() {
        s.test(48, "0 places, 1 documents of the index, 2 the rate, 3 steps since build()", () -> {
            TextRows x = Books.of(7, "banana", "", "ana");
            s.due("count(0)", x.count(0), 12);
            s.due("count(1)", x.count(1), 3);
            s.due("count(2)", x.count(2), 7);
            s.due("count(3)", x.count(3), 0);
            x.place(0);
            s.due("count(3)", x.count(3), 6);
            Books.write(x, "more");
            s.due("count(0) is of the index", x.count(0), 12);
            s.due("count(1) is of the index", x.count(1), 3);
            x.build(64);
            s.due("count(2)", x.count(2), 64);
            s.due("count(3)", x.count(3), 0);
            s.due("count(0)", x.count(0), 17);
        });
    }

    private void countOfRows() {
        s.test(48, "4 how many rows there are whose BEFORE is not that of the row in front", () -> {
            s.due("a - a n n n - b - a a a", Books.of(1, "banana", "", "ana").count(4), 8);
            s.due("a a a NONE", Books.of(1, "aaa").count(4), 2);
        });
        s.test(48, "(row 0 counts; NONE is unlike all, NONE too)", () -> {
            s.due("one row", Books.of(1, "").count(4), 1);
            s.due("NONE three times", Books.of(1, "", "", "").count(4), 3);
            s.due("a a NONE NONE", Books.of(1, "a", "a").count(4), 3);
            s.due("NONE in front of a", Books.of(1, "", "a").count(4), 3);
        });
        s.test(48, "5 the sum of SHARED, 6 the greatest SHARED", () -> {
            TextRows x = Books.of(1, "banana", "", "ana");
            s.due("count(5)", x.count(5), 12);
            s.due("count(6)", x.count(6), 3);
            TextRows y = Books.of(1, "a".repeat(2999));
            s.due("count(5) of a full book", y.count(5), 2998 * 2999 / 2);
            s.due("count(6) of a full book", y.count(6), 2998);
            TextRows z = Books.of(1, "ab", "");
            s.due("count(5) of nothing", z.count(5), 0);
            s.due("count(6) of nothing", z.count(6), 0);
        });
        s.test(48, "7 how many bytes there are that stand somewhere", () -> {
            s.due("a b n", Books.of(1, "banana", "", "ana").count(7), 3);
            s.due("none", Books.of(1, "", "").count(7), 0);
            s.due("0 and 255", Books.of(1, "\u0000", "\u00ff\u0000").count(7), 2);
        });
    }

    private void countOfBook() {
        s.test(48, "8 documents that are ended, 9 bytes of the one at hand, 10 signs of the query.", () -> {
            TextRows x = new TextRows();
            s.due("count(8)", x.count(8), 0);
            s.due("count(9)", x.count(9), 0);
            s.due("count(10)", x.count(10), 0);
            Books.write(x, "ab", "");
            Books.feed(x, "xyz");
            x.ask('a');
            x.ask(')');
            s.due("count(8) without an index", x.count(8), 2);
            s.due("count(9) without an index", x.count(9), 3);
            s.due("count(10) without an index", x.count(10), 2);
            x.build(1);
            x.cut();
            s.due("count(8) is of the book", x.count(8), 3);
            s.due("count(9)", x.count(9), 0);
            x.answer();
            s.due("count(10)", x.count(10), 0);
        });
        s.test(48, "BAD: another number;", () -> {
            for (int what : Sentences.noneOf(11)) {
                s.due("count(" + what + ")", Books.of(1, "ab").count(what), BAD);
                s.due("count(" + what + ") without an index", new TextRows().count(what), BAD);
            }
        });
        s.test(48, "0 to 7: no index.", () -> {
            TextRows x = new TextRows();
            Books.write(x, "ab");
            for (int what = 0; what <= 7; what++) {
                s.due("count(" + what + ")", x.count(what), BAD);
            }
            s.due("count(8)", x.count(8), 1);
        });
    }

    private void unwound() {
        String sentence = "A document as it is read back from its END by step() and before() alone: the i-th byte from "
                + "its end on (i from 0; the last byte first).";
        s.test(49, sentence, () -> {
            TextRows x = Books.of(4, "banana", "", "\u0000\u00ffx");
            for (int d = 0; d < 3; d++) {
                int row = x.row(x.document(d, 0) + x.document(d, 1));
                for (int i = 0; i < x.document(d, 1); i++) {
                    s.due("unwound(" + d + ", " + i + ")", x.unwound(d, i), x.before(row));
                    row = x.step(row);
                }
                s.due("before() of the first place", x.before(row), NONE);
            }
            s.due("unwound(0, 5): the first byte", x.unwound(0, 5), 'b');
            s.due("unwound(2, 0): the last byte", x.unwound(2, 0), 'x');
            s.due("unwound(2, 1)", x.unwound(2, 1), 255);
            s.due("unwound(2, 2)", x.unwound(2, 2), 0);
            s.due("count(3): no steps", x.count(3), 0);
        });
        s.test(49, "BAD: none such.", () -> {
            TextRows x = Books.of(4, "banana", "", "ab");
            for (int i : Sentences.noneOf(6)) {
                s.due("unwound(0, " + i + ")", x.unwound(0, i), BAD);
            }
            s.due("unwound(1, 0) of no bytes", x.unwound(1, 0), BAD);
            s.due("unwound(2, 2)", x.unwound(2, 2), BAD);
            for (int d : Sentences.noneOf(3)) {
                s.due("unwound(" + d + ", 0)", x.unwound(d, 0), BAD);
            }
        });
    }
}
