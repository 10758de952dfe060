/** Each sentence of the document that names an edge, with calls that lead to it; see Edge. */
public final class BoundaryTest {
    private BoundaryTest() {
    }

    public static void main(String[] args) {
        HallEdges.run();
        BlockEdges.run();
        OrderEdges.run();
        AccountEdges.run();
        CommandEdges.run();
        Edge.end("BoundaryTest");
    }
}
