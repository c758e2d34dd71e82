import java.io.IOException;

/** Every sentence of the document that names an edge, with a test of its own. */
public final class EdgesTest {
    private EdgesTest() {
    }

    public static void main(String[] args) throws IOException {
        Sentences.begin();
        TermEdges.run();
        TextEdges.run();
        PermutationEdges.run();
        PoemEdges.run();
        RhymeEdges.run();
        Sentences.end();
        Check.end("EdgesTest");
    }
}
