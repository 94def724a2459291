import java.io.IOException;

/** Each sentence of the document's "Terms" and promises, named by its own words, with a test of its own. */
public final class SentencesTest {
    private SentencesTest() {
    }

    public static void main(String[] args) throws IOException {
        Sentences.open();
        LandSentences.all();
        LawSentences.all();
        DaySentences.all();
        AskSentences.all();
        PromiseSentences.all();
        Sentences.close();
    }
}
