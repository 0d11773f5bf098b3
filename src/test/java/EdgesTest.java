/** The boundary cases that the document names: for each sentence a test of its own. */
public final class EdgesTest {
    public static void main(String[] args) {
        Edges edges = new Edges();
        new SkyEdges(edges).run();
        new NightEdges(edges).run();
        new PlanEdges(edges).run();
        new DecisionEdges(edges).run();
        new ChangeEdges(edges).run();
        new TextEdges(edges).run();
        new AskEdges(edges).run();
        edges.end();
    }
}
