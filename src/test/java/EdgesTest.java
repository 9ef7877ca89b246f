/**
 * For each sentence of the document a test of its own that names it: the last value that is still taken and the
 * first that is not, the empty and the full state, a wrap-around, and refused calls that leave everything as it was.
 */
public final class EdgesTest {
    public static void main(String[] args) {
        Quotes.open(args.length > 0 ? args[0] : "../shared/DOC.md");
        TapeEdges.all();
        TokenEdges.all();
        FaultEdges.all();
        FactEdges.all();
        WayEdges.all();
        RiderEdges.all();
        RouteEdges.all();
        FleetEdges.all();
        ListEdges.all();
        SnowEdges.all();
        int wrong = Run.finish() + Quotes.finish();
        if (wrong != 0) {
            System.exit(1);
        }
    }
}
