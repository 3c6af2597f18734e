import java.io.IOException;

/** Each boundary case that the document names, under its words, just inside and just outside. */
public final class BoundaryTest {
    private BoundaryTest() {
    }

    public static void main(String[] args) throws IOException {
        Edges edges = new Edges();
        new TapeEdges(edges).run();
        new TokenEdges(edges).run();
        new GrammarEdges(edges).run();
        new LimitEdges(edges).run();
        new FaultEdges(edges).run();
        new CaseEdges(edges).run();
        new LetterEdges(edges).run();
        new MadeEdges(edges).run();
        new DayEdges(edges).run();
        new WorldEdges(edges).run();
        new FaceEdges(edges).run();
        edges.finish();
    }
}
