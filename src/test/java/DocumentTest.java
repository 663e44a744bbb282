import java.io.IOException;
import java.nio.file.Path;

/**
 * The document, sentence by sentence: each whole one, and for each that names a boundary on it, one below, one above.
 * The argument is the document.
 */
public final class DocumentTest {

    private DocumentTest() {
    }

    public static void main(String[] args) throws IOException {
        Sentences sentences = new Sentences(Path.of(args[0]));
        WholeOfPeople.test(sentences);
        WholeOfSight.test(sentences);
        WholeOfAll.test(sentences);
        BoundariesOfPeople.test(sentences);
        BoundariesOfSight.test(sentences);
        BoundariesOfAll.test(sentences);
        if (!sentences.allHold()) {
            System.exit(1);
        }
    }
}
