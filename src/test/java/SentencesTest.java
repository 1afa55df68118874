import java.io.IOException;

/** Each sentence of the document, with a test of its own: see Sentences. */
final class SentencesTest {
    private SentencesTest() {
    }

    public static void main(String[] args) throws IOException {
        told(null).end();
    }

    /** Runs the tests of all quotes, or of the one that is named with its chapter. */
    static Sentences told(String only) throws IOException {
        Sentences s = new Sentences(only);
        FaceSentences.tell(s);
        StallSentences.tell(s);
        ChildSentences.tell(s);
        RoundSentences.tell(s);
        OrderSentences.tell(s);
        UndoSentences.tell(s);
        ForecastSentences.tell(s);
        return s;
    }

    /** Returns how many quotes there are. */
    static int quotes() throws IOException {
        return told("").quoted();
    }

    /** Returns how many answers are not as due at that quote, -1 if there is no such quote. */
    static int wrongAt(String quote) throws IOException {
        Sentences s = told(quote);
        return s.told() == 0 ? -1 : s.wrong();
    }
}
