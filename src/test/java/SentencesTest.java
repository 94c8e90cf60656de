import java.nio.file.Path;

/** Each sentence of the document has a test of its own, and holds; it is run in the project's folder. */
public final class SentencesTest {
    public static void main(String[] args) throws Exception {
        Check check = new Check();
        Doc doc = new Doc(Path.of("../shared/DOC.md"), check);
        new TextSentences(doc, check).all();
        new TermSentences(doc, check).all();
        new AnswerSentences(doc, check).all();
        new OperationSentences(doc, check).all();
        new QuerySentences(doc, check).all();
        doc.end();
        check.end();
    }
}
