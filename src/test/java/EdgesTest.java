import java.io.IOException;
import java.nio.file.Files;
import java.nio.file.Path;

/** Each sentence of the promises, and each of the terms that names a boundary, with a test of its own. */
public final class EdgesTest extends Asking {
    private static final int PROMISES = 51;

    public static void main(String[] args) throws IOException {
        Edges edges = new Edges(Files.readString(Path.of("../shared/DOC.md")));
        EdgesOfTerms.tell(edges);
        EdgesOfText.tell(edges);
        EdgesOfEdits.tell(edges);
        EdgesOfDays.tell(edges);
        EdgesOfPlaces.tell(edges);
        EdgesOfSearch.tell(edges);
        EdgesOfBook.tell(edges);
        EdgesOfKept.tell(edges);
        edges.lookForBoundaries("What it is");
        edges.lookForBoundaries("Terms");
        for (int promise = 1; promise <= PROMISES; promise++) {
            edges.lookForWords(promise);
        }
        finish("EdgesTest: " + edges.sentences() + " sentences");
    }
}
