/** Each sentence of the document at its edges, and what it refuses: no word of it is left without a test. */
public final class EdgesTest {
    public static void main(String[] args) {
        Due due = new Due();
        Document document = new Document();
        Script script = new Script(due, document);
        TermsEdges.all(script);
        TownEdges.all(script);
        WalksEdges.all(script);
        PricesEdges.all(script);
        WeeksEdges.all(script);
        SlipsEdges.all(script);
        document.isWhole(due);
        due.end();
    }
}
