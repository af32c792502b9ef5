/** Promise 2: edge. */
public final class Promise02EdgeTest {
    private static final int[] NO_VERTEX = Outside.of(0, 6);
    private static final int[] NO_WEIGHT = Outside.of(0, 9);

    private static final Check check = new Check();

    public static void main(String[] args) {
        check.run("2 sets an edge's weight, the smallest and the greatest", Promise02EdgeTest::sets);
        check.run("2 sets it again to another weight", Promise02EdgeTest::setsAgain);
        check.run("2 takes it away (w = 0)", Promise02EdgeTest::takesAway);
        check.run("2 takes away where there is no edge", Promise02EdgeTest::takesAwayNothing);
        check.run("2 every edge comes and goes", Promise02EdgeTest::everyEdgeComesAndGoes);
        check.run("2 else true", Promise02EdgeTest::elseTrue);
        check.run("2 a outside 0..6", Promise02EdgeTest::firstOutside);
        check.run("2 b outside 0..6", Promise02EdgeTest::secondOutside);
        check.run("2 a and b outside 0..6", Promise02EdgeTest::bothOutside);
        check.run("2 a = b", Promise02EdgeTest::same);
        check.run("2 w outside 0..9", Promise02EdgeTest::weightOutside);
        check.run("2 w outside 0..9 for a new edge", Promise02EdgeTest::weightOutsideNewEdge);
        check.run("2 refused with nothing there", Promise02EdgeTest::refusedWithNoEdges);
        check.run("2 refused with every edge there", Promise02EdgeTest::refusedWithEveryEdge);
        check.end();
    }

    private static int weightOf(GraphEngines x, int a, int b) {
        return x.link(1 << a | 1 << b);
    }

    private static void sets() {
        GraphEngines x = new GraphEngines();
        check.due("edge(0, 6, 1)", x.edge(0, 6, 1), true);
        check.due("its weight", weightOf(x, 0, 6), 1);
        check.due("edge(5, 1, 9)", x.edge(5, 1, 9), true);
        check.due("its weight", weightOf(x, 1, 5), 9);
        check.due("edges", x.matchings(1), 2);
        check.due("all weights", x.cut(), 10);
    }

    /** The ends stand the other way round the second time: it is the same edge. */
    private static void setsAgain() {
        for (int a = 0; a < 7; a++) {
            for (int b = 0; b < 7; b++) {
                if (a != b) {
                    GraphEngines x = Graphs.oneEdge(a, b, 1);
                    check.due("lighter to heavier", x.edge(b, a, 9), true);
                    check.due("9 from " + a, x.longest(a), 9);
                    check.due("9 from " + b, x.longest(b), 9);
                    check.due("9 between", weightOf(x, a, b), 9);
                    check.due("heavier to lighter", x.edge(a, b, 2), true);
                    check.due("2 from " + a, x.longest(a), 2);
                    check.due("2 from " + b, x.longest(b), 2);
                    check.due("one edge", x.matchings(1), 1);
                    check.due("2 in all", x.cut(), 2);
                    check.due("the same weight again", x.edge(a, b, 2), true);
                    check.due("2 still", x.layout(), 2);
                }
            }
        }
    }

    private static void takesAway() {
        for (int a = 0; a < 7; a++) {
            for (int b = 0; b < 7; b++) {
                if (a != b) {
                    GraphEngines x = Graphs.oneEdge(a, b, 9);
                    check.due("edge(" + b + ", " + a + ", 0)", x.edge(b, a, 0), true);
                    Answers.dueSame(check, x, Graphs.none());
                    x.edge(a, b, 3);
                    check.due("there again", weightOf(x, a, b), 3);
                    check.due("one edge", x.matchings(1), 1);
                }
            }
        }
    }

    private static void takesAwayNothing() {
        GraphEngines x = new GraphEngines();
        for (int a = 0; a < 7; a++) {
            for (int b = 0; b < 7; b++) {
                if (a != b) {
                    check.due("edge(" + a + ", " + b + ", 0)", x.edge(a, b, 0), true);
                }
            }
        }
        Answers.dueSame(check, x, Graphs.none());
        GraphEngines y = Graphs.heavy();
        check.due("edge(0, 2, 0)", y.edge(0, 2, 0), true);
        check.due("edge(6, 1, 0)", y.edge(6, 1, 0), true);
        Answers.dueSame(check, y, Graphs.heavy());
    }

    private static void everyEdgeComesAndGoes() {
        GraphEngines x = Graphs.complete(9);
        check.due("edges", x.matchings(1), 21);
        Answers.dueSame(check, x, Graphs.complete(9));
        for (int a = 0; a < 7; a++) {
            for (int b = a + 1; b < 7; b++) {
                check.due("edge(" + b + ", " + a + ", 0)", x.edge(b, a, 0), true);
            }
        }
        Answers.dueSame(check, x, Graphs.none());
    }

    private static void elseTrue() {
        GraphEngines x = new GraphEngines();
        for (int w = 9; w >= 0; w--) {
            for (int a = 0; a < 7; a++) {
                for (int b = 0; b < 7; b++) {
                    if (a != b) {
                        String call = "edge(" + a + ", " + b + ", " + w + ")";
                        check.due(call, x.edge(a, b, w), true);
                    }
                }
            }
            // Every edge has the weight w, and 12 of them lie between three vertices and four.
            check.due("cut() with weight " + w, x.cut(), 12 * w);
            check.due("layout() with weight " + w, x.layout(), 56 * w);
        }
    }

    private static void firstOutside() {
        GraphEngines x = Graphs.heavy();
        for (int v : NO_VERTEX) {
            check.due("edge(" + v + ", 0, 0)", x.edge(v, 0, 0), false);
            check.due("edge(" + v + ", 2, 1)", x.edge(v, 2, 1), false);
            check.due("edge(" + v + ", 6, 9)", x.edge(v, 6, 9), false);
        }
        Answers.dueSame(check, x, Graphs.heavy());
    }

    private static void secondOutside() {
        GraphEngines x = Graphs.heavy();
        for (int v : NO_VERTEX) {
            check.due("edge(0, " + v + ", 0)", x.edge(0, v, 0), false);
            check.due("edge(2, " + v + ", 1)", x.edge(2, v, 1), false);
            check.due("edge(6, " + v + ", 9)", x.edge(6, v, 9), false);
        }
        Answers.dueSame(check, x, Graphs.heavy());
    }

    private static void bothOutside() {
        GraphEngines x = Graphs.heavy();
        for (int v : NO_VERTEX) {
            check.due("edge(" + v + ", " + v + ", 1)", x.edge(v, v, 1), false);
            check.due("edge(" + v + ", 7, 2)", x.edge(v, 7, 2), false);
            check.due("edge(-1, " + v + ", 0)", x.edge(-1, v, 0), false);
            check.due("edge(" + v + ", -1, 10)", x.edge(v, -1, 10), false);
        }
        Answers.dueSame(check, x, Graphs.heavy());
    }

    private static void same() {
        GraphEngines x = Graphs.heavy();
        for (int v = 0; v < 7; v++) {
            for (int w = -1; w <= 10; w++) {
                check.due("edge(" + v + ", " + v + ", " + w + ")", x.edge(v, v, w), false);
            }
        }
        Answers.dueSame(check, x, Graphs.heavy());
    }

    private static void weightOutside() {
        GraphEngines x = Graphs.heavy();
        for (int w : NO_WEIGHT) {
            check.due("edge(0, 1, " + w + ")", x.edge(0, 1, w), false);
            check.due("edge(6, 5, " + w + ")", x.edge(6, 5, w), false);
        }
        Answers.dueSame(check, x, Graphs.heavy());
    }

    private static void weightOutsideNewEdge() {
        GraphEngines x = Graphs.heavy();
        for (int w : NO_WEIGHT) {
            check.due("edge(0, 2, " + w + ")", x.edge(0, 2, w), false);
            check.due("edge(6, 1, " + w + ")", x.edge(6, 1, w), false);
        }
        Answers.dueSame(check, x, Graphs.heavy());
    }

    private static void refused(GraphEngines x) {
        for (int v = 0; v < 7; v++) {
            check.due("edge(-1, " + v + ", 5)", x.edge(-1, v, 5), false);
            check.due("edge(7, " + v + ", 5)", x.edge(7, v, 5), false);
            check.due("edge(" + v + ", -1, 5)", x.edge(v, -1, 5), false);
            check.due("edge(" + v + ", 7, 5)", x.edge(v, 7, 5), false);
            check.due("edge(" + v + ", " + v + ", 5)", x.edge(v, v, 5), false);
            for (int u = 0; u < 7; u++) {
                check.due("edge(" + v + ", " + u + ", -1)", x.edge(v, u, -1), false);
                check.due("edge(" + v + ", " + u + ", 10)", x.edge(v, u, 10), false);
            }
        }
    }

    private static void refusedWithNoEdges() {
        GraphEngines x = Graphs.none();
        refused(x);
        Answers.dueSame(check, x, Graphs.none());
    }

    private static void refusedWithEveryEdge() {
        GraphEngines x = Graphs.complete(9);
        refused(x);
        Answers.dueSame(check, x, Graphs.complete(9));
    }
}
