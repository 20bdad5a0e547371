import java.io.IOException;
import java.nio.file.Files;
import java.nio.file.Path;

/** Each sentence of the document at its boundaries: too small, too large, empty, full, around, refused. */
public final class BoundaryTest {
    private static final Path DOCUMENT = Path.of("../shared/DOC.md");

    public static void main(String[] args) throws IOException {
        Checks checks = new Checks("BoundaryTest");
        Sentences sentences = new Sentences(checks);
        new TermSentences(sentences).all();
        new TextSentences(sentences).all();
        new PromiseSentences(sentences).all();
        if (Files.isReadable(DOCUMENT)) {
            sentences.holdAgainst(DOCUMENT);
        } else {
            System.out.println("BoundaryTest: no " + DOCUMENT + ", so no sentence is looked for in it");
        }
        checks.end();
    }
}
