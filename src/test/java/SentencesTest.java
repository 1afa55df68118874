import java.io.IOException;

/** Each sentence of the document, with a test of its own: see Sentences. */
final class SentencesTest {
    private SentencesTest() {
    }

    public static void main(String[] args) throws IOException {
        Sentences s = new Sentences();
        StallSentences.tell(s);
        ChildSentences.tell(s);
        RoundSentences.tell(s);
        OrderSentences.tell(s);
        UndoSentences.tell(s);
        ForecastSentences.tell(s);
        s.end();
    }
}
