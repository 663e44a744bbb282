import java.io.IOException;
import java.nio.file.Path;

/** For each sentence of the document that names a boundary: on it, one below, one above. The argument is the document. */
public final class BoundariesTest {

    private BoundariesTest() {
    }

    public static void main(String[] args) throws IOException {
        Sentences sentences = new Sentences(Path.of(args[0]));
        BoundariesOfPeople.test(sentences);
        BoundariesOfSight.test(sentences);
        BoundariesOfAll.test(sentences);
        if (!sentences.allHold()) {
            System.exit(1);
        }
    }
}
