/** Each sentence of the document: what it says at its edges, and what it refuses. */
public final class EdgesTest extends Edges {
    public static void main(String[] args) throws Exception {
        openDocument();
        EdgesOfTexts.run();
        EdgesOfHours.run();
        EdgesOfDeeds.run();
        EdgesOfCalls.run();
        EdgesOfSounds.run();
        EdgesOfTrays.run();
        closeDocument();
    }
}
