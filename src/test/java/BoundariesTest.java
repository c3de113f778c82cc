import java.io.IOException;
import java.nio.file.Files;
import java.nio.file.Path;

/**
 * A test for each sentence of the document: at the last values that are allowed, at the first that are not, on
 * either side; and every call that is refused must leave all as it was. In the end the document is read, so
 * that no sentence of it goes without a test. The answers that are due were worked out by hand from it.
 */
public final class BoundariesTest {
    private static final Path DOCUMENT = Path.of("../shared/DOC.md");

    private BoundariesTest() {
    }

    public static void main(String[] args) throws IOException {
        PictureSentences.all();
        PathSentences.all();
        DepthSentences.all();
        SegmentSentences.all();
        SceneSentences.all();
        BodySentences.all();
        KeptSentences.all();
        if (Files.exists(DOCUMENT)) {
            System.out.println(Sentence.checkDocument(DOCUMENT) + " sentences are tested");
        } else {
            System.out.println("the document is not at " + DOCUMENT + ": its words are not compared");
        }
        Run.end();
    }
}
