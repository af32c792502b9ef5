/** Promise 11: cut. */
public final class Promise11CutTest {
    private static final Check check = new Check();

    public static void main(String[] args) {
        check.run("11 no edges", Promise11CutTest::noEdges);
        check.run("11 every edge, the smallest and the greatest weight", Promise11CutTest::everyEdge);
        check.run("11 one edge, wherever it is", Promise11CutTest::oneEdge);
        check.run("11 all edges at once", Promise11CutTest::allEdges);
        check.run("11 not all edges at once", Promise11CutTest::notAllEdges);
        check.run("11 an edge set again and taken away", Promise11CutTest::changed);
        check.end();
    }

    private static void noEdges() {
        check.due("cut()", Graphs.none().cut(), 0);
    }

    private static void everyEdge() {
        check.due("by weight 1", Graphs.complete(1).cut(), 12);
        check.due("by weight 9", Graphs.complete(9).cut(), 108);
    }

    private static void oneEdge() {
        for (int a = 0; a < 7; a++) {
            for (int b = 0; b < 7; b++) {
                if (a != b) {
                    check.due(a + " - " + b, Graphs.oneEdge(a, b, 9).cut(), 9);
                }
            }
        }
    }

    private static void allEdges() {
        check.due("line", Graphs.line().cut(), 21);
        check.due("star", Graphs.star().cut(), 24);
        check.due("bipartite", Graphs.bipartite().cut(), 24);
        check.due("ring of 6", Graphs.ringOf(6).cut(), 6);
    }

    private static void notAllEdges() {
        check.due("ring, but its lightest edge", Graphs.ring().cut(), 27);
        check.due("triangles, but their lightest edges", Graphs.triangles().cut(), 5 + 11);
        check.due("wheel, its middle against the ring", Graphs.wheel().cut(), 18);
        check.due("clique of 4", Graphs.clique(4, 9).cut(), 36);
        check.due("clique of 6", Graphs.clique(6, 1).cut(), 9);
    }

    private static void changed() {
        GraphEngines x = Graphs.ring();
        x.edge(6, 0, 1);
        check.due("set again to less", x.cut(), 21);
        x.edge(0, 6, 9);
        check.due("set again to more", x.cut(), 29);
        x.edge(3, 2, 0);
        check.due("taken away", x.cut(), 27);
        x.edge(2, 3, 9);
        check.due("there again", x.cut(), 35);
        GraphEngines y = Graphs.oneEdge(3, 6, 9);
        y.edge(6, 3, 0);
        check.due("the last edge taken away", y.cut(), 0);
    }
}
