import java.io.IOException;

/** Each sentence of the document that names a boundary case, told by its promise's number and its words. */
public final class SentencesTest {
    private SentencesTest() {
    }

    public static void main(String[] arguments) throws IOException {
        Sentences all = new Sentences();
        new TermSentences(all).run();
        new QuerySentences(all).run();
        new BookSentences(all).run();
        new RowSentences(all).run();
        new PatternSentences(all).run();
        new RepeatSentences(all).run();
        all.finish();
    }
}
