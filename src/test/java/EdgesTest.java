import java.io.IOException;

/** Each sentence of the document at its bounds; that none is left out is tested too. */
public final class EdgesTest {
    public static void main(String[] args) throws IOException {
        Edges edges = new Edges();
        new EdgesOfTexts(edges).tell();
        new EdgesOfSettings(edges).tell();
        new EdgesOfActing(edges).tell();
        new EdgesOfDeeds(edges).tell();
        new EdgesOfPlans(edges).tell();
        new EdgesOfTrades(edges).tell();
        new EdgesOfSeen(edges).tell();
        new EdgesOfSheets(edges).tell();
        edges.end();
    }
}
