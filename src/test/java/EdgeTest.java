/** Every sentence of the document that names an edge, quoted and tested; fails too if a sentence is quoted nowhere. */
public final class EdgeTest {
    public static void main(String[] args) {
        SeaEdges.all();
        ShipEdges.all();
        TextEdges.all();
        AheadEdges.all();
        HomeEdges.all();
        OddsEdges.all();
        LookEdges.all();
        RunEdges.all();
        ImageEdges.all();
        Doc.allQuoted();
        Check.end();
    }
}
