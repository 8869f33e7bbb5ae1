/** A test for each sentence of the document that names an edge; at the end none is left without one. */
public final class EdgesTest {
    public static void main(String[] args) {
        EdgesOfFighters.run();
        EdgesOfTurns.run();
        EdgesOfActing.run();
        EdgesOfAreas.run();
        EdgesOfPowers.run();
        EdgesOfConditions.run();
        EdgesOfRests.run();
        EdgesOfJournal.run();
        EdgesOfChanges.run();
        EdgesInDoubt.run();
        Edge.everyClauseHasATest();
        Due.end("EdgesTest");
    }
}
