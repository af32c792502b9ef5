/** Promise 12: matchings. */
public final class Promise12MatchingsTest {
    private static final Check check = new Check();

    public static void main(String[] args) {
        check.run("12 no edges", Promise12MatchingsTest::noEdges);
        check.run("12 every edge", Promise12MatchingsTest::everyEdge);
        check.run("12 k = 0: the set with no edges", Promise12MatchingsTest::emptySet);
        check.run("12 k = 1: each edge", Promise12MatchingsTest::eachEdge);
        check.run("12 k = 3, the last one allowed", Promise12MatchingsTest::threeEdges);
        check.run("12 no two have a vertex in common", Promise12MatchingsTest::nothingInCommon);
        check.run("12 an edge set again and taken away", Promise12MatchingsTest::changed);
        check.run("12 BAD for k outside 0..3", Promise12MatchingsTest::outside);
        check.end();
    }

    private static void matchingsDue(String name, GraphEngines x, int[] want) {
        for (int k = 0; k < want.length; k++) {
            check.due(name + ", matchings(" + k + ")", x.matchings(k), want[k]);
        }
    }

    private static void noEdges() {
        int[] want = {1, 0, 0, 0};
        matchingsDue("none", Graphs.none(), want);
    }

    private static void everyEdge() {
        int[] want = {1, 21, 105, 105};
        matchingsDue("by weight 1", Graphs.complete(1), want);
        matchingsDue("by weight 9", Graphs.complete(9), want);
    }

    private static void emptySet() {
        check.due("one edge", Graphs.oneEdge(0, 6, 9).matchings(0), 1);
        check.due("star", Graphs.star().matchings(0), 1);
        check.due("heavy", Graphs.heavy().matchings(0), 1);
    }

    private static void eachEdge() {
        for (int a = 0; a < 7; a++) {
            for (int b = 0; b < 7; b++) {
                if (a != b) {
                    check.due(a + " - " + b, Graphs.oneEdge(a, b, 2).matchings(1), 1);
                }
            }
        }
        check.due("heavy", Graphs.heavy().matchings(1), 14);
    }

    /** Three edges apart from each other, each vertex left alone in turn. */
    private static void threeEdges() {
        int[] want = {1, 3, 3, 1};
        for (int alone = 0; alone < 7; alone++) {
            GraphEngines x = new GraphEngines();
            for (int i = 1; i < 7; i += 2) {
                x.edge((alone + i) % 7, (alone + i + 1) % 7, i);
            }
            matchingsDue("all but " + alone, x, want);
        }
    }

    private static void nothingInCommon() {
        int[] line = {1, 6, 10, 4};
        int[] ring = {1, 7, 14, 7};
        int[] star = {1, 6, 0, 0};
        int[] triangles = {1, 6, 9, 0};
        int[] bipartite = {1, 12, 36, 24};
        matchingsDue("line", Graphs.line(), line);
        matchingsDue("ring", Graphs.ring(), ring);
        matchingsDue("star", Graphs.star(), star);
        matchingsDue("triangles", Graphs.triangles(), triangles);
        matchingsDue("bipartite", Graphs.bipartite(), bipartite);
    }

    private static void changed() {
        int[] ring = {1, 7, 14, 7};
        int[] line = {1, 6, 10, 4};
        GraphEngines x = Graphs.ring();
        x.edge(0, 1, 9);
        matchingsDue("set again", x, ring);
        x.edge(1, 0, 0);
        matchingsDue("taken away", x, line);
        x.edge(0, 1, 1);
        matchingsDue("there again", x, ring);
    }

    private static void outside() {
        GraphEngines x = Graphs.heavy();
        for (int k : Outside.of(0, 3)) {
            check.due("matchings(" + k + ")", x.matchings(k), GraphEngines.BAD);
            check.due("none, " + k, Graphs.none().matchings(k), GraphEngines.BAD);
            check.due("complete, " + k, Graphs.complete(9).matchings(k), GraphEngines.BAD);
        }
        Answers.dueSame(check, x, Graphs.heavy());
    }
}
