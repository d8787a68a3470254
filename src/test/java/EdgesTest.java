import java.io.IOException;

/** Promises 1 to 9: each sentence of the document, with a test of its own at the edges that it names. */
final class EdgesTest {
    private EdgesTest() {
    }

    public static void main(String[] args) throws IOException {
        Sentences.begin();
        EdgesOfEngine.all();
        EdgesOfText.all();
        EdgesOfLimits.all();
        EdgesOfFaults.all();
        EdgesOfRuns.all();
        EdgesOfHeap.all();
        EdgesOfEnds.all();
        EdgesOfCalls.all();
        Sentences.end();
        Checks.end("EdgesTest");
    }
}
