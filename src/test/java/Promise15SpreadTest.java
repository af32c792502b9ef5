/** Promise 15: spread. */
public final class Promise15SpreadTest {
    private static final Check check = new Check();

    public static void main(String[] args) {
        check.run("15 no edges", Promise15SpreadTest::noEdges);
        check.run("15 every edge", Promise15SpreadTest::everyEdge);
        check.run("15 edges count, not weights", Promise15SpreadTest::edgesCount);
        check.run("15 cliques", Promise15SpreadTest::cliques);
        check.run("15 some graphs", Promise15SpreadTest::someGraphs);
        check.run("15 an edge set again and taken away", Promise15SpreadTest::changed);
        check.end();
    }

    private static void noEdges() {
        check.due("spread()", Graphs.none().spread(), 0);
    }

    private static void everyEdge() {
        check.due("by weight 1", Graphs.complete(1).spread(), 12);
        check.due("by weight 9", Graphs.complete(9).spread(), 12);
    }

    private static void edgesCount() {
        for (int w = 1; w <= 9; w++) {
            check.due("one edge by " + w, Graphs.oneEdge(0, 6, w).spread(), 1);
        }
        check.due("line", Graphs.line().spread(), 1);
    }

    private static void cliques() {
        for (int n = 1; n <= 7; n++) {
            check.due("clique of " + n, Graphs.clique(n, 3).spread(), n / 2 * (n - n / 2));
        }
    }

    private static void someGraphs() {
        check.due("star", Graphs.star().spread(), 3);
        for (int n = 3; n <= 7; n++) {
            check.due("ring of " + n, Graphs.ringOf(n).spread(), 2);
        }
        check.due("ring", Graphs.ring().spread(), 2);
        check.due("triangles, one after the other", Graphs.triangles().spread(), 2);
    }

    private static void changed() {
        GraphEngines x = Graphs.complete(9);
        x.edge(0, 6, 1);
        check.due("set again", x.spread(), 12);
        x.edge(6, 0, 0);
        // With 0 first and 6 last the missing edge would have led past each place.
        check.due("taken away", x.spread(), 11);
        x.edge(0, 6, 9);
        check.due("there again", x.spread(), 12);
        GraphEngines y = Graphs.ring();
        y.edge(3, 4, 0);
        check.due("ring without an edge", y.spread(), 1);
        y.edge(4, 3, 9);
        check.due("ring with the edge again", y.spread(), 2);
    }
}
