/** Promise 6: tours. */
public final class Promise06ToursTest {
    private static final Check check = new Check();

    public static void main(String[] args) {
        check.run("6 no edges", Promise06ToursTest::noEdges);
        check.run("6 every edge", Promise06ToursTest::everyEdge);
        check.run("6 a tour is a set of edges, wherever it begins", Promise06ToursTest::setOfEdges);
        check.run("6 last and first are neighbours", Promise06ToursTest::closed);
        check.run("6 all seven vertices", Promise06ToursTest::allSeven);
        check.run("6 some graphs", Promise06ToursTest::someGraphs);
        check.run("6 an edge set again and taken away", Promise06ToursTest::changed);
        check.end();
    }

    private static void noEdges() {
        check.due("tours()", Graphs.none().tours(), 0);
        check.due("one edge", Graphs.oneEdge(0, 6, 1).tours(), 0);
    }

    private static void everyEdge() {
        check.due("by weight 1", Graphs.complete(1).tours(), 360);
        check.due("by weight 9", Graphs.complete(9).tours(), 360);
    }

    private static void setOfEdges() {
        check.due("ring", Graphs.ring().tours(), 1);
        check.due("ring, other weights", Graphs.ringOf(7).tours(), 1);
        GraphEngines x = new GraphEngines();
        int[] order = {3, 0, 5, 1, 6, 2, 4};
        for (int i = 0; i < 7; i++) {
            x.edge(order[i], order[(i + 1) % 7], 9);
        }
        check.due("a ring in another order", x.tours(), 1);
    }

    private static void closed() {
        check.due("line", Graphs.line().tours(), 0);
        for (int v = 0; v < 7; v++) {
            GraphEngines x = Graphs.ring();
            x.edge(v, (v + 1) % 7, 0);
            check.due("ring without the edge from " + v, x.tours(), 0);
        }
    }

    private static void allSeven() {
        for (int n = 3; n < 7; n++) {
            check.due("ring of " + n, Graphs.ringOf(n).tours(), 0);
            check.due("clique of " + n, Graphs.clique(n, 1).tours(), 0);
        }
        check.due("triangles", Graphs.triangles().tours(), 0);
        GraphEngines x = Graphs.clique(6, 1);
        x.edge(6, 0, 1);
        check.due("clique of 6 and one edge to 6", x.tours(), 0);
        x.edge(6, 1, 1);
        check.due("clique of 6 and two edges to 6", x.tours(), 24);
    }

    private static void someGraphs() {
        check.due("star", Graphs.star().tours(), 0);
        check.due("wheel", Graphs.wheel().tours(), 6);
        check.due("bipartite", Graphs.bipartite().tours(), 0);
    }

    private static void changed() {
        GraphEngines x = Graphs.complete(1);
        x.edge(0, 4, 9);
        check.due("set again", x.tours(), 360);
        x.edge(4, 0, 0);
        // Each tour has 7 of the 21 edges, so a third of all tours have this one.
        check.due("taken away", x.tours(), 240);
        x.edge(0, 4, 2);
        check.due("there again", x.tours(), 360);
        x.edge(5, 6, 0);
        check.due("another one taken away", x.tours(), 240);
    }
}
