/** A test for each sentence of ../shared/DOC.md that names a boundary case. */
public final class BoundaryTests {
    public static void main(String[] args) {
        EdgesOfObjects.run();
        EdgesOfLetters.run();
        EdgesOfLost.run();
        Edge.end("BoundaryTests");
    }
}
