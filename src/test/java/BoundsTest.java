/** Each sentence of the document, at the boundaries that it names, by a test of its own. */
public final class BoundsTest {
    public static void main(String[] args) {
        BoundsOfTerms.all();
        BoundsOfRows.all();
        BoundsOfTexts.all();
        BoundsOfDeeds.all();
        BoundsOfForetold.all();
        BoundsOfAsked.all();
        Document.endOfTests();
        Check.end();
    }
}
