/** Promise 13: dominators. */
public final class Promise13DominatorsTest {
    private static final Check check = new Check();

    public static void main(String[] args) {
        check.run("13 no edges", Promise13DominatorsTest::noEdges);
        check.run("13 every edge", Promise13DominatorsTest::everyEdge);
        check.run("13 k = 0: the empty set never does", Promise13DominatorsTest::emptySet);
        check.run("13 k = 7: all vertices always do", Promise13DominatorsTest::allVertices);
        check.run("13 in it or with a neighbour in it", Promise13DominatorsTest::inOrBeside);
        check.run("13 a vertex that is alone must be in it", Promise13DominatorsTest::alone);
        check.run("13 an edge set again and taken away", Promise13DominatorsTest::changed);
        check.run("13 BAD for k outside 0..7", Promise13DominatorsTest::outside);
        check.end();
    }

    private static void dominatorsDue(String name, GraphEngines x, int[] want) {
        for (int k = 0; k < want.length; k++) {
            check.due(name + ", dominators(" + k + ")", x.dominators(k), want[k]);
        }
    }

    private static void noEdges() {
        int[] want = {0, 0, 0, 0, 0, 0, 0, 1};
        dominatorsDue("none", Graphs.none(), want);
    }

    private static void everyEdge() {
        int[] want = {0, 7, 21, 35, 35, 21, 7, 1};
        dominatorsDue("by weight 1", Graphs.complete(1), want);
        dominatorsDue("by weight 9", Graphs.complete(9), want);
    }

    private static void emptySet() {
        check.due("line", Graphs.line().dominators(0), 0);
        check.due("star", Graphs.star().dominators(0), 0);
        check.due("heavy", Graphs.heavy().dominators(0), 0);
    }

    private static void allVertices() {
        check.due("line", Graphs.line().dominators(7), 1);
        check.due("triangles", Graphs.triangles().dominators(7), 1);
        check.due("heavy", Graphs.heavy().dominators(7), 1);
    }

    private static void inOrBeside() {
        int[] star = {0, 1, 6, 15, 20, 15, 7, 1};
        dominatorsDue("star", Graphs.star(), star);
        check.due("line, 3", Graphs.line().dominators(3) > 0, true);
        check.due("line, 2: each sees three at most", Graphs.line().dominators(2), 0);
        check.due("ring, 2: each sees three at most", Graphs.ring().dominators(2), 0);
        check.due("ring, 3", Graphs.ring().dominators(3), 14);
        check.due("wheel, 1: the middle", Graphs.wheel().dominators(1), 1);
    }

    private static void alone() {
        int[] triangles = {0, 0, 0, 9, 18, 15, 6, 1};
        int[] oneEdge = {0, 0, 0, 0, 0, 0, 2, 1};
        int[] clique = {0, 0, 6, 15, 20, 15, 6, 1};
        dominatorsDue("triangles", Graphs.triangles(), triangles);
        dominatorsDue("one edge", Graphs.oneEdge(0, 6, 9), oneEdge);
        dominatorsDue("clique of 6", Graphs.clique(6, 1), clique);
    }

    private static void changed() {
        int[] star = {0, 1, 6, 15, 20, 15, 7, 1};
        // Without its edge, 6 must be in the set, and a star of six vertices is left.
        int[] without = {0, 0, 1, 5, 10, 10, 6, 1};
        GraphEngines x = Graphs.star();
        x.edge(3, 6, 1);
        dominatorsDue("set again", x, star);
        x.edge(6, 3, 0);
        dominatorsDue("taken away", x, without);
        x.edge(6, 3, 9);
        dominatorsDue("there again", x, star);
    }

    private static void outside() {
        GraphEngines x = Graphs.heavy();
        for (int k : Outside.of(0, 7)) {
            check.due("dominators(" + k + ")", x.dominators(k), GraphEngines.BAD);
            check.due("none, " + k, Graphs.none().dominators(k), GraphEngines.BAD);
            check.due("complete, " + k, Graphs.complete(9).dominators(k), GraphEngines.BAD);
        }
        Answers.dueSame(check, x, Graphs.heavy());
    }
}
