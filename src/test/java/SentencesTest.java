import java.io.IOException;

/** Each sentence of the document has a test of its own: those of the terms, then those of the promises by number. */
public final class SentencesTest {
    public static void main(String[] args) throws IOException {
        Sentence.read();
        TermsSentences.all();
        SignalSentences.all();
        MeaningSentences.all();
        LookerSentences.all();
        ToldSentences.all();
        Sentence.isAllTested();
        Check.end("SentencesTest");
    }
}
