/**
 * Each sentence of the document's terms and promises, quoted ahead of the calls that hold the class to it; fails, too,
 * if words of the document are quoted by none of these tests.
 */
public final class SentencesTest {
    public static void main(String[] args) {
        RefusalSentences.all();
        RowSentences.all();
        TapeSentences.all();
        WinterSentences.all();
        ForetoldSentences.all();
        AskedSentences.all();
        Check.sentenceEnds();
        Document.isAllQuoted();
        Check.end("SentencesTest");
    }
}
