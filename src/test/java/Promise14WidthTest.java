/** Promise 14: width. */
public final class Promise14WidthTest {
    private static final Check check = new Check();

    public static void main(String[] args) {
        check.run("14 no edges", Promise14WidthTest::noEdges);
        check.run("14 every edge", Promise14WidthTest::everyEdge);
        check.run("14 each answer from 0 to 6", Promise14WidthTest::eachAnswer);
        check.run("14 some graphs", Promise14WidthTest::someGraphs);
        check.run("14 neighbours that are left become neighbours", Promise14WidthTest::becomeNeighbours);
        check.run("14 in the graph as it is by then", Promise14WidthTest::asItIsByThen);
        check.run("14 the graph is whole again afterwards", Promise14WidthTest::wholeAgain);
        check.run("14 an edge set again and taken away", Promise14WidthTest::changed);
        check.end();
    }

    private static void noEdges() {
        check.due("width()", Graphs.none().width(), 0);
    }

    private static void everyEdge() {
        check.due("by weight 1", Graphs.complete(1).width(), 6);
        check.due("by weight 9", Graphs.complete(9).width(), 6);
    }

    private static void eachAnswer() {
        for (int n = 1; n <= 7; n++) {
            check.due("clique of " + n, Graphs.clique(n, 5).width(), n - 1);
        }
    }

    private static void someGraphs() {
        check.due("one edge", Graphs.oneEdge(0, 6, 9).width(), 1);
        check.due("line", Graphs.line().width(), 1);
        check.due("star", Graphs.star().width(), 1);
        for (int n = 3; n <= 7; n++) {
            check.due("ring of " + n, Graphs.ringOf(n).width(), 2);
        }
        check.due("triangles", Graphs.triangles().width(), 2);
        check.due("wheel", Graphs.wheel().width(), 3);
        check.due("bipartite", Graphs.bipartite().width(), 3);
    }

    /** Four vertices, each two joined, but three of the edges led over a vertex of its own. */
    private static void becomeNeighbours() {
        GraphEngines x = Graphs.clique(4, 1);
        for (int v = 1; v <= 3; v++) {
            x.edge(0, v, 0);
            x.edge(0, v + 3, 1);
            x.edge(v + 3, v, 1);
        }
        check.due("width()", x.width(), 3);
    }

    /** Four vertices, each two joined, but one of the edges led over three vertices in a row. */
    private static void asItIsByThen() {
        GraphEngines x = Graphs.clique(4, 1);
        x.edge(0, 1, 0);
        check.due("without the edge", x.width(), 2);
        x.edge(0, 4, 1);
        x.edge(4, 5, 1);
        x.edge(5, 6, 1);
        check.due("half of the way", x.width(), 2);
        x.edge(6, 1, 1);
        check.due("the whole way", x.width(), 3);
    }

    private static void wholeAgain() {
        GraphEngines x = Graphs.heavy();
        x.width();
        x.width();
        Answers.dueSame(check, x, Graphs.heavy());
    }

    private static void changed() {
        GraphEngines x = Graphs.complete(1);
        x.edge(1, 4, 9);
        check.due("set again", x.width(), 6);
        x.edge(4, 1, 0);
        check.due("taken away", x.width(), 5);
        x.edge(1, 4, 1);
        check.due("there again", x.width(), 6);
        GraphEngines y = Graphs.ring();
        y.edge(6, 0, 0);
        check.due("ring without an edge", y.width(), 1);
        y.edge(0, 6, 9);
        check.due("ring with the edge again", y.width(), 2);
    }
}
