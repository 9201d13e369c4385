/** Runs the tests of all edges, and looks whether an edge that the document names has none. */
public final class EdgesTest extends Edges {
    private EdgesTest() {
    }

    public static void main(String[] args) {
        EdgesOfPosts.run();
        EdgesOfLaw.run();
        EdgesOfRounds.run();
        EdgesOfPapers.run();
        EdgesOfDeeds.run();
        EdgesOfShelves.run();
        EdgesOfPromises.run();
        lookForUnquoted();
        end("all edges hold");
    }
}
