/** Promise 9: longest. */
public final class Promise09LongestTest {
    private static final Check check = new Check();

    public static void main(String[] args) {
        check.run("9 no edges: the path with one vertex", Promise09LongestTest::noEdges);
        check.run("9 every edge, the smallest and the greatest weight", Promise09LongestTest::everyEdge);
        check.run("9 a vertex that is alone", Promise09LongestTest::alone);
        check.run("9 it begins at the vertex", Promise09LongestTest::begins);
        check.run("9 it need not have all vertices", Promise09LongestTest::fewer);
        check.run("9 its vertices are different ones", Promise09LongestTest::different);
        check.run("9 an edge set again and taken away", Promise09LongestTest::changed);
        check.run("9 BAD for a outside 0..6", Promise09LongestTest::outside);
        check.end();
    }

    private static void allDue(String name, GraphEngines x, int[] want) {
        for (int a = 0; a < want.length; a++) {
            check.due(name + ", longest(" + a + ")", x.longest(a), want[a]);
        }
    }

    private static void noEdges() {
        int[] want = {0, 0, 0, 0, 0, 0, 0};
        allDue("none", Graphs.none(), want);
    }

    private static void everyEdge() {
        int[] light = {6, 6, 6, 6, 6, 6, 6};
        int[] heavy = {54, 54, 54, 54, 54, 54, 54};
        allDue("by weight 1", Graphs.complete(1), light);
        allDue("by weight 9", Graphs.complete(9), heavy);
    }

    private static void alone() {
        check.due("beside triangles", Graphs.triangles().longest(6), 0);
        check.due("beside a clique of 6", Graphs.clique(6, 9).longest(6), 0);
        check.due("beside one edge", Graphs.oneEdge(1, 6, 9).longest(0), 0);
    }

    private static void begins() {
        int[] line = {21, 20, 18, 15, 11, 15, 21};
        int[] star = {8, 9, 10, 7, 12, 13, 13};
        int[] ring = {27, 27, 26, 25, 24, 23, 22};
        allDue("line", Graphs.line(), line);
        allDue("star", Graphs.star(), star);
        allDue("ring", Graphs.ring(), ring);
    }

    private static void fewer() {
        GraphEngines x = new GraphEngines();
        x.edge(0, 1, 1);
        x.edge(1, 2, 1);
        x.edge(2, 3, 1);
        x.edge(0, 4, 9);
        check.due("one heavy edge, not three light ones", x.longest(0), 9);
        int[] triangles = {5, 5, 4, 11, 11, 10, 0};
        allDue("triangles", Graphs.triangles(), triangles);
    }

    private static void different() {
        int[] want = {9, 9, 0, 0, 0, 0, 0};
        allDue("one edge", Graphs.oneEdge(0, 1, 9), want);
    }

    private static void changed() {
        GraphEngines x = Graphs.line();
        x.edge(2, 3, 9);
        check.due("set again to more", x.longest(0), 27);
        x.edge(3, 2, 1);
        check.due("set again to less", x.longest(0), 19);
        x.edge(2, 3, 0);
        check.due("taken away, from 0", x.longest(0), 3);
        check.due("taken away, from 6", x.longest(6), 15);
        check.due("taken away, from 3", x.longest(3), 15);
        x.edge(2, 3, 3);
        check.due("there again", x.longest(6), 21);
    }

    private static void outside() {
        GraphEngines x = Graphs.heavy();
        for (int v : Outside.of(0, 6)) {
            check.due("longest(" + v + ")", x.longest(v), GraphEngines.BAD);
            check.due("none, " + v, Graphs.none().longest(v), GraphEngines.BAD);
            check.due("complete, " + v, Graphs.complete(9).longest(v), GraphEngines.BAD);
        }
        Answers.dueSame(check, x, Graphs.heavy());
    }
}
