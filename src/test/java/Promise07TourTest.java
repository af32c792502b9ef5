/** Promise 7: tour. */
public final class Promise07TourTest {
    private static final Check check = new Check();

    public static void main(String[] args) {
        check.run("7 no edges", Promise07TourTest::noEdges);
        check.run("7 every edge, the smallest and the greatest weight", Promise07TourTest::everyEdge);
        check.run("7 NONE if there is none", Promise07TourTest::thereIsNone);
        check.run("7 the only tour", Promise07TourTest::onlyTour);
        check.run("7 the smallest of several", Promise07TourTest::smallest);
        check.run("7 an edge set again and taken away", Promise07TourTest::changed);
        check.end();
    }

    private static void noEdges() {
        check.due("tour()", Graphs.none().tour(), GraphEngines.NONE);
    }

    private static void everyEdge() {
        check.due("by weight 1", Graphs.complete(1).tour(), 7);
        check.due("by weight 9", Graphs.complete(9).tour(), 63);
    }

    private static void thereIsNone() {
        check.due("one edge", Graphs.oneEdge(0, 1, 1).tour(), GraphEngines.NONE);
        check.due("line", Graphs.line().tour(), GraphEngines.NONE);
        check.due("star", Graphs.star().tour(), GraphEngines.NONE);
        check.due("triangles", Graphs.triangles().tour(), GraphEngines.NONE);
        check.due("bipartite", Graphs.bipartite().tour(), GraphEngines.NONE);
        check.due("ring of 6", Graphs.ringOf(6).tour(), GraphEngines.NONE);
        GraphEngines x = Graphs.clique(6, 9);
        check.due("clique of 6", x.tour(), GraphEngines.NONE);
        x.edge(6, 5, 1);
        check.due("clique of 6 and one edge to 6", x.tour(), GraphEngines.NONE);
        x.edge(6, 4, 1);
        check.due("clique of 6 and two edges to 6", x.tour(), 5 * 9 + 2);
    }

    private static void onlyTour() {
        check.due("ring", Graphs.ring().tour(), 28);
        check.due("ring by weight 1", Graphs.ringOf(7).tour(), 7);
    }

    private static void smallest() {
        check.due("wheel", Graphs.wheel().tour(), 11);
        GraphEngines x = Graphs.wheel();
        x.edge(2, 3, 9);
        check.due("wheel around the heavy edge", x.tour(), 11);
        x.edge(6, 2, 1);
        x.edge(6, 3, 2);
        check.due("wheel over the light edges", x.tour(), 8);
    }

    private static void changed() {
        GraphEngines x = Graphs.lightLine();
        check.due("a line by 1 and the way back by 9", x.tour(), 15);
        x.edge(6, 0, 1);
        check.due("the way back by 1", x.tour(), 7);
        x.edge(2, 3, 5);
        check.due("an edge set to 5", x.tour(), 11);
        x.edge(3, 2, 0);
        // Without it the tour crosses over: five edges by 1 and two by 9.
        check.due("taken away", x.tour(), 23);
        GraphEngines y = Graphs.ring();
        y.edge(6, 0, 0);
        check.due("ring without an edge", y.tour(), GraphEngines.NONE);
        y.edge(0, 6, 9);
        check.due("ring with the edge again", y.tour(), 30);
    }
}
