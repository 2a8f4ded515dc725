import java.io.IOException;

/** Each sentence of the document by itself: at its limit, one below it and one above it, and what it refuses. */
public final class EdgesTest {
    public static void main(String[] args) throws IOException {
        TermsEdges.all();
        RowsEdges.all();
        TextsEdges.all();
        ActsEdges.all();
        ForetoldEdges.all();
        RidesEdges.all();
        AskedEdges.all();
        Sentences.check();
        Due.end();
    }
}
