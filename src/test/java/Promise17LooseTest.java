/** Promise 17: loose. */
public final class Promise17LooseTest {
    private static final Check check = new Check();

    public static void main(String[] args) {
        check.run("17 no edges", Promise17LooseTest::noEdges);
        check.run("17 every edge: two are left", Promise17LooseTest::everyEdge);
        check.run("17 at most one path: none or one already", Promise17LooseTest::alreadyLoose);
        check.run("17 two paths, around a ring", Promise17LooseTest::rings);
        check.run("17 some graphs", Promise17LooseTest::someGraphs);
        check.run("17 nothing is taken out for good", Promise17LooseTest::nothingTakenOut);
        check.run("17 an edge set again and taken away", Promise17LooseTest::changed);
        check.end();
    }

    private static void noEdges() {
        check.due("loose()", Graphs.none().loose(), 0);
    }

    private static void everyEdge() {
        check.due("by weight 1", Graphs.complete(1).loose(), 5);
        check.due("by weight 9", Graphs.complete(9).loose(), 5);
        for (int n = 1; n < 7; n++) {
            check.due("clique of " + n, Graphs.clique(n, 2).loose(), n < 3 ? 0 : n - 2);
        }
    }

    private static void alreadyLoose() {
        check.due("one edge", Graphs.oneEdge(0, 6, 9).loose(), 0);
        check.due("line", Graphs.line().loose(), 0);
        check.due("star", Graphs.star().loose(), 0);
        GraphEngines x = Graphs.line();
        x.edge(2, 3, 0);
        check.due("two lines", x.loose(), 0);
    }

    private static void rings() {
        for (int n = 3; n <= 7; n++) {
            check.due("ring of " + n, Graphs.ringOf(n).loose(), 1);
        }
        GraphEngines x = new GraphEngines();
        x.edge(4, 5, 1);
        x.edge(5, 6, 1);
        x.edge(6, 4, 1);
        check.due("a ring of the last three", x.loose(), 1);
    }

    private static void someGraphs() {
        check.due("triangles, apart", Graphs.triangles().loose(), 2);
        check.due("wheel", Graphs.wheel().loose(), 2);
        check.due("bipartite", Graphs.bipartite().loose(), 2);
        GraphEngines x = new GraphEngines();
        for (int v = 0; v < 6; v += 2) {
            x.edge(6, v, 1);
            x.edge(v, v + 1, 1);
            x.edge(v + 1, 6, 1);
        }
        check.due("three triangles with one vertex in common", x.loose(), 1);
    }

    private static void nothingTakenOut() {
        GraphEngines x = Graphs.heavy();
        x.loose();
        x.loose();
        Answers.dueSame(check, x, Graphs.heavy());
    }

    private static void changed() {
        GraphEngines x = Graphs.ring();
        x.edge(2, 3, 9);
        check.due("set again", x.loose(), 1);
        x.edge(3, 2, 0);
        check.due("taken away", x.loose(), 0);
        x.edge(2, 3, 1);
        check.due("there again", x.loose(), 1);
        GraphEngines y = Graphs.complete(1);
        y.edge(0, 1, 0);
        check.due("complete but one edge", y.loose(), 4);
        y.edge(1, 0, 9);
        check.due("complete again", y.loose(), 5);
    }
}
