import java.io.IOException;

/** Every sentence of the document, the boundaries that it names above all: too small, too large, empty, full, refused. */
public final class SentencesTest {
    private SentencesTest() {
    }

    public static void main(String[] args) throws IOException {
        Sentences s = new Sentences();
        new ToldSentences(s).tell();
        new LineSentences(s).tell();
        new WeeksSentences(s).tell();
        new OrdersSentences(s).tell();
        new PagesSentences(s).tell();
        s.finish();
    }
}
