/** Promise 3: colours. */
public final class Promise03ColoursTest {
    private static final Check check = new Check();

    public static void main(String[] args) {
        check.run("3 no edges", Promise03ColoursTest::noEdges);
        check.run("3 every edge", Promise03ColoursTest::everyEdge);
        check.run("3 one edge", Promise03ColoursTest::oneEdge);
        check.run("3 k = 0: there is no number to give", Promise03ColoursTest::noColours);
        check.run("3 k = 1: only if there are no neighbours", Promise03ColoursTest::oneColour);
        check.run("3 k = 9, the last one allowed", Promise03ColoursTest::nineColours);
        check.run("3 some graphs", Promise03ColoursTest::someGraphs);
        check.run("3 an edge set again and taken away", Promise03ColoursTest::changed);
        check.run("3 BAD for k outside 0..9", Promise03ColoursTest::outside);
        check.end();
    }

    private static void coloursDue(String name, GraphEngines x, int[] want) {
        for (int k = 0; k < want.length; k++) {
            check.due(name + "colours(" + k + ")", x.colours(k), want[k]);
        }
    }

    private static void noEdges() {
        int[] want = {0, 1, 128, 2187, 16384, 78125, 279936, 823543, 2097152, 4782969};
        coloursDue("", Graphs.none(), want);
    }

    private static void everyEdge() {
        int[] want = {0, 0, 0, 0, 0, 0, 0, 5040, 40320, 181440};
        coloursDue("", Graphs.complete(1), want);
    }

    private static void oneEdge() {
        int[] want = {0, 0, 64, 1458, 12288, 62500, 233280, 705894, 1835008, 4251528};
        coloursDue("0 - 6: ", Graphs.oneEdge(0, 6, 9), want);
        coloursDue("4 - 3: ", Graphs.oneEdge(4, 3, 1), want);
    }

    private static void noColours() {
        check.due("line", Graphs.line().colours(0), 0);
        check.due("ring", Graphs.ring().colours(0), 0);
        check.due("triangles", Graphs.triangles().colours(0), 0);
    }

    private static void oneColour() {
        check.due("no edges", Graphs.none().colours(1), 1);
        for (int v = 1; v < 7; v++) {
            check.due("0 - " + v, Graphs.oneEdge(0, v, 1).colours(1), 0);
        }
        check.due("star", Graphs.star().colours(1), 0);
    }

    private static void nineColours() {
        check.due("line", Graphs.line().colours(9), 9 * 262144);
        check.due("ring", Graphs.ring().colours(9), 2097152 - 8);
        check.due("triangles", Graphs.triangles().colours(9), 504 * 504 * 9);
        check.due("clique of 6", Graphs.clique(6, 1).colours(9), 60480 * 9);
    }

    private static void someGraphs() {
        check.due("line, 2", Graphs.line().colours(2), 2);
        check.due("star, 2", Graphs.star().colours(2), 2);
        check.due("bipartite, 2", Graphs.bipartite().colours(2), 2);
        check.due("ring, 2", Graphs.ring().colours(2), 0);
        check.due("ring, 3", Graphs.ring().colours(3), 126);
        check.due("wheel, 3", Graphs.wheel().colours(3), 6);
        check.due("wheel, 4", Graphs.wheel().colours(4), 264);
        check.due("triangles, 3", Graphs.triangles().colours(3), 6 * 6 * 3);
        check.due("triangles, 2", Graphs.triangles().colours(2), 0);
    }

    private static void changed() {
        GraphEngines x = Graphs.complete(1);
        x.edge(2, 5, 9);
        check.due("set again, 7", x.colours(7), 5040);
        x.edge(5, 2, 0);
        // Now 2 and 5 may have the same colour: 720 more with 6 colours, 5040 more with 7.
        check.due("taken away, 6", x.colours(6), 720);
        check.due("taken away, 7", x.colours(7), 10080);
        x.edge(2, 5, 3);
        check.due("there again, 6", x.colours(6), 0);
        check.due("there again, 7", x.colours(7), 5040);
    }

    private static void outside() {
        GraphEngines x = Graphs.heavy();
        for (int k : Outside.of(0, 9)) {
            check.due("colours(" + k + ")", x.colours(k), GraphEngines.BAD);
            check.due("none, " + k, Graphs.none().colours(k), GraphEngines.BAD);
            check.due("complete, " + k, Graphs.complete(9).colours(k), GraphEngines.BAD);
        }
        Answers.dueSame(check, x, Graphs.heavy());
    }
}
