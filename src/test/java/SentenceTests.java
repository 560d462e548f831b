/** Each sentence of the document's Terms and promises that names a boundary case, with a test of its own. */
public final class SentenceTests {
    private SentenceTests() {
    }

    public static void main(String[] args) {
        TapeSentences.all();
        TextSentences.all();
        TickSentences.all();
        WallSentences.all();
        HouseSentences.all();
        RowSentences.all();
        Sentences.close("SentenceTests");
    }
}
