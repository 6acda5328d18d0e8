import java.io.IOException;

/** Each sentence of the document has a test of its own; see Sentences. */
public final class SentencesTest {
    public static void main(String[] args) throws IOException {
        Sentences sentences = new Sentences();
        new FirstSentences(sentences).all();
        new WaySentences(sentences).all();
        new GoingSentences(sentences).all();
        new OffSentences(sentences).all();
        sentences.allQuoted("A sofa up a stair", "30 to 33 GOALS. OUTSIDE.");
        sentences.due.end();
    }
}
