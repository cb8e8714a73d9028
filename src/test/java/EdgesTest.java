/** The document's sentences that name a boundary, one by one; see Edges. */
public final class EdgesTest {
    public static void main(String[] args) throws Exception {
        Edges edges = new Edges();
        new EdgesOfRefusals(edges).all();
        new EdgesOfPlaces(edges).all();
        new EdgesOfSigns(edges).all();
        new EdgesOfTexts(edges).all();
        new EdgesOfWalks(edges).all();
        new EdgesOfLaws(edges).all();
        new EdgesOfCrowds(edges).all();
        new EdgesOfSheets(edges).all();
        new EdgesOfImages(edges).all();
        edges.end();
    }
}
