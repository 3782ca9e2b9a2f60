import java.io.IOException;

/** Each sentence of the document that names a boundary case: the last that is good, the first that is not. */
public final class BoundaryTests {
    private BoundaryTests() {
    }

    public static void main(String[] args) throws IOException {
        TermBoundaries.all();
        TextBoundaries.all();
        LookBoundaries.all();
        KeptBoundaries.all();
        PromiseBoundaries.all();
        Sentences.holdAgainst(args.length > 1 ? args[1] : "../shared/DOC.md");
        Check.end("BoundaryTests");
    }
}
