import java.io.IOException;
import java.util.ArrayList;
import java.util.List;
import java.util.function.IntSupplier;

/**
 * Runs tests that each stand for a sentence of the document. A test is told by the promise's number (TERMS for what
 * holds for all of them) and by the sentence's own words, which must stand there.
 */
final class Sentences {
    static final int FACE = Doc.FACE;
    static final int TERMS = Doc.TERMS;
    /** What no call takes for a place, a row or a document, however many there are. */
    private static final int[] WILD = {-1, -2, Integer.MIN_VALUE, Integer.MAX_VALUE};

    private final Check check = new Check("SentencesTest");
    private final Doc doc = new Doc();
    private String sentence = "";
    private int tests;

    Sentences() throws IOException {
        check.holds("the document has its terms and " + Doc.PROMISES + " promises", doc.hasAll());
    }

    void test(int promise, String words, Runnable steps) {
        tests++;
        sentence = Doc.nameOf(promise) + ", \"" + words + "\"";
        check.holds(sentence + ": the document says so", doc.say(promise, words));
        int looked = check.looked();
        try {
            steps.run();
        } catch (RuntimeException | StackOverflowError thrown) {
            check.holds(sentence + ": nothing is thrown, but " + thrown, false);
        }
        check.holds(sentence + ": something was looked at", check.looked() > looked);
    }

    /** All words of the document must be those of some test. */
    void finish() {
        for (String left : doc.unsaid()) {
            check.holds("a test stands for " + left, false);
        }
        System.out.println("SentencesTest: " + tests + " tests of sentences");
        check.finish();
    }

    /** The document's public face. */
    String face() {
        return doc.wordsOf(FACE);
    }

    void due(String call, int got, int want) {
        check.due(sentence + ": " + call, got, want);
    }

    void holds(String what, boolean does) {
        check.holds(sentence + ": " + what, does);
    }

    /** The pattern at hand with the number of calls that its history has. */
    void pattern(TextRows x, String bytes, int history) {
        holds("the pattern is " + bytes + " (not " + Books.pattern(x) + ")", Books.pattern(x).equals(bytes));
        due("pattern(3)", x.pattern(3), history);
    }

    /** The query is right and matches at these places, each told with its least and its greatest length. */
    void matches(TextRows x, String query, int... told) {
        due("answer of " + query, Books.answer(x, query), told.length / 3);
        for (int i = 0; i < told.length; i++) {
            due(query + ": answered(" + i / 3 + ", " + i % 3 + ")", x.answered(i / 3, i % 3), told[i]);
        }
        due(query + ": answered one too many", x.answered(told.length / 3, 0), TextRows.BAD);
    }

    /** The query's first wrong sign stands at a place. */
    void wrong(TextRows x, String query, int place) {
        due("answer of " + query, Books.answer(x, query), -2 - place);
    }

    void tooGreat(TextRows x, String query) {
        due("answer of " + query, Books.answer(x, query), -1000);
    }

    /** A call answers so, and all that can be seen of the object is as it was. */
    void unchanged(TextRows x, String call, IntSupplier made, int want) {
        List<Integer> before = seen(x);
        due(call, made.getAsInt(), want);
        holds(call + " changes nothing: " + before + " then " + seen(x), seen(x).equals(before));
    }

    /** Numbers that are none of so many things, which are counted from 0 on. */
    static int[] noneOf(int count) {
        int[] wild = new int[WILD.length + 2];
        System.arraycopy(WILD, 0, wild, 0, WILD.length);
        wild[WILD.length] = count;
        wild[WILD.length + 1] = count + 1;
        return wild;
    }

    /** What an object tells without a change; of long rows the beginning, since an object has 512 calls. */
    static List<Integer> seen(TextRows x) {
        List<Integer> all = new ArrayList<>();
        for (int what = 0; what <= 10; what++) {
            all.add(x.count(what));
        }
        for (int what = 0; what <= 3; what++) {
            all.add(x.pattern(what));
        }
        for (int i = 0; i < Math.min(x.pattern(0), 6); i++) {
            all.add(x.patternByte(i));
        }
        for (int k = 0; k < 6; k++) {
            all.add(x.byteAt(k));
            all.add(x.nearOf(k, k % 2));
            all.add(x.answered(k, k % 3));
        }
        return all;
    }
}
