/** Promise 4: chromatic. */
public final class Promise04ChromaticTest {
    private static final Check check = new Check();

    public static void main(String[] args) {
        check.run("4 no edges", Promise04ChromaticTest::noEdges);
        check.run("4 every edge", Promise04ChromaticTest::everyEdge);
        check.run("4 each answer from 1 to 7", Promise04ChromaticTest::eachAnswer);
        check.run("4 rings, even and odd", Promise04ChromaticTest::rings);
        check.run("4 some graphs", Promise04ChromaticTest::someGraphs);
        check.run("4 the smallest k with a colouring", Promise04ChromaticTest::smallest);
        check.run("4 an edge set again and taken away", Promise04ChromaticTest::changed);
        check.end();
    }

    private static void noEdges() {
        check.due("chromatic()", Graphs.none().chromatic(), 1);
    }

    private static void everyEdge() {
        check.due("by weight 1", Graphs.complete(1).chromatic(), 7);
        check.due("by weight 9", Graphs.complete(9).chromatic(), 7);
    }

    private static void eachAnswer() {
        for (int n = 1; n <= 7; n++) {
            check.due("clique of " + n, Graphs.clique(n, 4).chromatic(), n);
        }
    }

    private static void rings() {
        for (int n = 3; n <= 7; n++) {
            check.due("ring of " + n, Graphs.ringOf(n).chromatic(), n % 2 == 0 ? 2 : 3);
        }
    }

    private static void someGraphs() {
        check.due("line", Graphs.line().chromatic(), 2);
        check.due("star", Graphs.star().chromatic(), 2);
        check.due("bipartite", Graphs.bipartite().chromatic(), 2);
        check.due("triangles", Graphs.triangles().chromatic(), 3);
        check.due("wheel, even", Graphs.wheel().chromatic(), 3);
        GraphEngines odd = Graphs.ringOf(5);
        for (int v = 0; v < 5; v++) {
            odd.edge(5, v, 1);
        }
        check.due("wheel, odd", odd.chromatic(), 4);
    }

    private static void smallest() {
        GraphEngines x = Graphs.heavy();
        int k = x.chromatic();
        check.due("colourings with one less", x.colours(k - 1), 0);
        check.due("a colouring with just as many", x.colours(k) > 0, true);
    }

    private static void changed() {
        GraphEngines x = Graphs.complete(1);
        x.edge(0, 1, 9);
        check.due("set again", x.chromatic(), 7);
        x.edge(0, 1, 0);
        check.due("one taken away", x.chromatic(), 6);
        x.edge(2, 3, 0);
        check.due("another one, apart", x.chromatic(), 5);
        x.edge(5, 4, 0);
        check.due("a third one, apart", x.chromatic(), 4);
        x.edge(1, 0, 1);
        check.due("the first one there again", x.chromatic(), 5);
        GraphEngines y = Graphs.oneEdge(6, 0, 1);
        check.due("one edge", y.chromatic(), 2);
        y.edge(0, 6, 0);
        check.due("the last edge taken away", y.chromatic(), 1);
    }
}
