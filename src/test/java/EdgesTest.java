import java.io.IOException;

/** For each sentence of the document that names a boundary case a test of its own, by promises. */
public final class EdgesTest {
    public static void main(String[] args) throws IOException {
        Edges e = new Edges();
        EdgesOfTheHouse.tell(e);
        EdgesOfTheLaw.tell(e);
        EdgesOfThings.tell(e);
        EdgesOfHands.tell(e);
        EdgesOfPlaces.tell(e);
        EdgesOfTheHost.tell(e);
        e.end();
    }
}
