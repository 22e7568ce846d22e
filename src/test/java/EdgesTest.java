import java.io.IOException;

/** Each sentence of the document's Terms and promises, with a test of its own: bounds, edges, refusals. */
public final class EdgesTest {
    public static void main(String[] args) throws IOException {
        Sentences s = new Sentences();
        new FindingEdges(s).all();
        new PeopleTermsEdges(s).all();
        new DaysTermsEdges(s).all();
        new PeopleEdges(s).all();
        new GiftEdges(s).all();
        new DayEdges(s).all();
        new SendingEdges(s).all();
        new LayerEdges(s).all();
        new TapeEdges(s).all();
        new SheetEdges(s).all();
        new ImageEdges(s).all();
        s.close();
    }
}
