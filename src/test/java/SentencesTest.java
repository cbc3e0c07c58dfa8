import java.nio.file.Path;

/** Every sentence of the document, with the boundary cases that it names; it takes the path of the document. */
public final class SentencesTest {
    public static void main(String[] args) throws Exception {
        Sentences sentences = new Sentences(Path.of(args.length > 0 ? args[0] : "../shared/DOC.md"));
        new GeneralSentences(sentences).check();
        new StoreSentences(sentences).check();
        new CommittingSentences(sentences).check();
        new TransactionSentences(sentences).check();
        new OperationSentences(sentences).check();
        new HistorySentences(sentences).check();
        new ScriptSentences(sentences).check();
        sentences.finish("SentencesTest");
    }
}
