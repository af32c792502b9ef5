/** Promise 5: coefficient. */
public final class Promise05CoefficientTest {
    private static final Check check = new Check();

    public static void main(String[] args) {
        check.run("5 no edges", Promise05CoefficientTest::noEdges);
        check.run("5 every edge", Promise05CoefficientTest::everyEdge);
        check.run("5 some graphs", Promise05CoefficientTest::someGraphs);
        check.run("5 i = 0 and i = 7, the ends of the range", Promise05CoefficientTest::ends);
        check.run("5 one polynomial for all k from 0 on", Promise05CoefficientTest::polynomial);
        check.run("5 an edge set again and taken away", Promise05CoefficientTest::changed);
        check.run("5 0 for i outside 0..7", Promise05CoefficientTest::outside);
        check.end();
    }

    private static void coefficientsDue(String name, GraphEngines x, int[] want) {
        for (int i = 0; i < want.length; i++) {
            check.due(name + ", coefficient(" + i + ")", x.coefficient(i), want[i]);
        }
    }

    private static void noEdges() {
        int[] want = {0, 0, 0, 0, 0, 0, 0, 1};
        coefficientsDue("none", Graphs.none(), want);
    }

    private static void everyEdge() {
        int[] want = {0, 720, -1764, 1624, -735, 175, -21, 1};
        coefficientsDue("by weight 1", Graphs.complete(1), want);
        coefficientsDue("by weight 9", Graphs.complete(9), want);
    }

    private static void someGraphs() {
        int[] tree = {0, 1, -6, 15, -20, 15, -6, 1};
        int[] ring = {0, 6, -21, 35, -35, 21, -7, 1};
        int[] triangles = {0, 0, 0, 4, -12, 13, -6, 1};
        int[] oneEdge = {0, 0, 0, 0, 0, 0, -1, 1};
        coefficientsDue("line", Graphs.line(), tree);
        coefficientsDue("star", Graphs.star(), tree);
        coefficientsDue("ring", Graphs.ring(), ring);
        coefficientsDue("triangles", Graphs.triangles(), triangles);
        coefficientsDue("one edge", Graphs.oneEdge(2, 6, 5), oneEdge);
    }

    private static void ends() {
        GraphEngines[] graphs = {
            Graphs.none(), Graphs.complete(9), Graphs.heavy(), Graphs.wheel(), Graphs.bipartite()};
        for (GraphEngines x : graphs) {
            check.due("coefficient(0)", x.coefficient(0), 0);
            check.due("coefficient(7)", x.coefficient(7), 1);
            check.due("coefficient(6)", x.coefficient(6), -x.matchings(1));
        }
    }

    private static void polynomial() {
        GraphEngines[] graphs = {
            Graphs.none(), Graphs.complete(9), Graphs.heavy(), Graphs.wheel(), Graphs.bipartite()};
        for (GraphEngines x : graphs) {
            for (int k = 0; k <= 9; k++) {
                int value = 0;
                for (int i = 7; i >= 0; i--) {
                    value = value * k + x.coefficient(i);
                }
                check.due("the polynomial at " + k, value, x.colours(k));
            }
        }
    }

    private static void changed() {
        int[] ring = {0, 6, -21, 35, -35, 21, -7, 1};
        int[] line = {0, 1, -6, 15, -20, 15, -6, 1};
        GraphEngines x = Graphs.ring();
        x.edge(3, 4, 9);
        coefficientsDue("set again", x, ring);
        x.edge(4, 3, 0);
        coefficientsDue("taken away", x, line);
        x.edge(3, 4, 1);
        coefficientsDue("there again", x, ring);
    }

    private static void outside() {
        GraphEngines x = Graphs.heavy();
        for (int i : Outside.of(0, 7)) {
            check.due("coefficient(" + i + ")", x.coefficient(i), 0);
            check.due("none, " + i, Graphs.none().coefficient(i), 0);
            check.due("complete, " + i, Graphs.complete(9).coefficient(i), 0);
        }
        Answers.dueSame(check, x, Graphs.heavy());
    }
}
