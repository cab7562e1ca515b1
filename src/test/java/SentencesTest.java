/** Each sentence of the document has a test of its own, which names it. */
public final class SentencesTest {
    public static void main(String[] args) {
        Sentences.open();
        TermsSentences.hold();
        ReckoningSentences.hold();
        LookingSentences.hold();
        TextSentences.hold();
        Sentences.finish();
    }
}
