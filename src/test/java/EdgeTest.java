/**
 * For each sentence of the document that names an edge a test of its own, which says which promise and which sentence it
 * holds the program against. Argument: the document.
 */
public final class EdgeTest {
    public static void main(String[] args) throws Exception {
        Edges.open(args.length > 0 ? args[0] : "../shared/DOC.md");
        EdgesOfState.look();
        EdgesOfMarriage.look();
        EdgesOfPlans.look();
        EdgesOfNumbers.look();
        EdgesOfChanges.look();
        EdgesOfRuns.look();
        EdgesOfRefusals.look();
        Edges.close();
    }
}
