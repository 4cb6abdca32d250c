import java.io.IOException;

/** The document read sentence by sentence: each one is quoted, and has a test of its own at its edges. */
public final class EdgesTest {
    public static void main(String[] args) throws IOException {
        Edges edges = new Edges();
        runAll(edges);
        edges.takeUsedObjects();
        runAll(edges);
        edges.finish();
    }

    private static void runAll(Edges edges) {
        new OverviewEdges(edges).run();
        new DraftEdges(edges).run();
        new SettingsEdges(edges).run();
        new GroupsEdges(edges).run();
        new TickEdges(edges).run();
        new ForetellingEdges(edges).run();
        new HappenedEdges(edges).run();
        new RefusalEdges(edges).run();
    }
}
