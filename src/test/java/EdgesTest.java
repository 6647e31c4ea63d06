import java.io.IOException;
import java.nio.file.Files;
import java.nio.file.Path;

/** Each sentence of the terms and of the promises, with a test of its own. */
public final class EdgesTest extends Asking {
    private static final int PROMISES = 51;

    public static void main(String[] args) throws IOException {
        Edges edges = new Edges(Files.readString(Path.of("../shared/DOC.md")));
        EdgesOfTerms.tell(edges);
        EdgesOfText.tell(edges);
        EdgesOfEdits.tell(edges);
        EdgesOfDays.tell(edges);
        EdgesOfPlaces.tell(edges);
        EdgesOfSearch.tell(edges);
        EdgesOfBook.tell(edges);
        EdgesOfKept.tell(edges);
        edges.lookForWords("What it is", "An object is used", "; what later calls answer is free");
        edges.lookForWords("Terms", "", "Ahead of the calls `sign`");
        edges.lookForWords("Terms", "---- search", "Ahead of the calls `pair`");
        for (int promise = 1; promise <= PROMISES; promise++) {
            edges.lookForWordsOfPromise(promise);
        }
        finish("EdgesTest: " + edges.sentences() + " sentences");
    }
}
