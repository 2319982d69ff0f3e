/** The document sentence by sentence; in the end none of its sentences may be left without a test. */
public final class SentenceTest {
    private SentenceTest() {
    }

    public static void main(String[] args) {
        RowSentences.play();
        TextSentences.play();
        DoneSentences.play();
        ForetoldSentences.play();
        LogSentences.play();
        AskedSentences.play();
        Doc.end();
        Due.end("SentenceTest");
    }
}
