import java.util.List;

/** Each sentence of the document that names an edge, tested at the edge and one step to either side of it. */
public final class EdgesTest {
    private EdgesTest() {
    }

    public static void main(String[] args) {
        if (!failing().isEmpty()) {
            System.exit(1);
        }
    }

    /** The sentences that do not hold. */
    public static List<String> failing() {
        Edge e = new Edge();
        NetEdges.run(e);
        MadeEdges.run(e);
        JoinEdges.run(e);
        AskedEdges.run(e);
        RowEdges.run(e);
        HostEdges.run(e);
        DetailEdges.run(e);
        return e.end();
    }
}
