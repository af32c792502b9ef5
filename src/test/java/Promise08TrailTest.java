/** Promise 8: trail. */
public final class Promise08TrailTest {
    private static final int[] NO_VERTEX = Outside.of(0, 6);

    private static final Check check = new Check();

    public static void main(String[] args) {
        check.run("8 no edges", Promise08TrailTest::noEdges);
        check.run("8 every edge, the smallest and the greatest weight", Promise08TrailTest::everyEdge);
        check.run("8 there is none: NONE", Promise08TrailTest::thereIsNone);
        check.run("8 from a to b, either way round", Promise08TrailTest::fromTo);
        check.run("8 the smallest of several", Promise08TrailTest::smallest);
        check.run("8 an edge set again and taken away", Promise08TrailTest::changed);
        check.run("8 a outside 0..6: BAD", Promise08TrailTest::firstOutside);
        check.run("8 b outside 0..6: BAD", Promise08TrailTest::secondOutside);
        check.run("8 a and b outside 0..6: BAD", Promise08TrailTest::bothOutside);
        check.run("8 a = b: BAD", Promise08TrailTest::same);
        check.end();
    }

    /** Due between each two different vertices. */
    private static void allDue(String name, GraphEngines x, int want) {
        for (int a = 0; a < 7; a++) {
            for (int b = 0; b < 7; b++) {
                if (a != b) {
                    check.due(name + "trail(" + a + ", " + b + ")", x.trail(a, b), want);
                }
            }
        }
    }

    private static void noEdges() {
        allDue("", Graphs.none(), GraphEngines.NONE);
    }

    private static void everyEdge() {
        allDue("by weight 1: ", Graphs.complete(1), 6);
        allDue("by weight 9: ", Graphs.complete(9), 54);
    }

    private static void thereIsNone() {
        allDue("one edge: ", Graphs.oneEdge(0, 6, 1), GraphEngines.NONE);
        allDue("star: ", Graphs.star(), GraphEngines.NONE);
        allDue("triangles: ", Graphs.triangles(), GraphEngines.NONE);
        allDue("clique of 6: ", Graphs.clique(6, 1), GraphEngines.NONE);
    }

    private static void fromTo() {
        for (int a = 0; a < 7; a++) {
            for (int b = 0; b < 7; b++) {
                if (a != b) {
                    String call = "trail(" + a + ", " + b + ")";
                    boolean ends = a + b == 6 && a * b == 0;
                    int line = ends ? 21 : GraphEngines.NONE;
                    check.due("line: " + call, Graphs.line().trail(a, b), line);
                    int ring = GraphEngines.NONE;
                    if ((a + 1) % 7 == b) {
                        ring = 28 - (a + 1);
                    } else if ((b + 1) % 7 == a) {
                        ring = 28 - (b + 1);
                    }
                    check.due("ring: " + call, Graphs.ring().trail(a, b), ring);
                    int bipartite = a >= 3 && b >= 3 ? 12 : GraphEngines.NONE;
                    check.due("bipartite: " + call, Graphs.bipartite().trail(a, b), bipartite);
                }
            }
        }
    }

    private static void smallest() {
        check.due("wheel, 6 to 2", Graphs.wheel().trail(6, 2), 8);
        check.due("wheel, 0 to 1", Graphs.wheel().trail(0, 1), 10);
        check.due("light line, 0 to 6", Graphs.lightLine().trail(0, 6), 6);
        check.due("light line, 6 to 0", Graphs.lightLine().trail(6, 0), 6);
    }

    private static void changed() {
        GraphEngines x = Graphs.lightLine();
        x.edge(2, 3, 9);
        check.due("set again", x.trail(0, 6), 14);
        x.edge(3, 2, 0);
        // 0 - 2 - 1 - 3 - 4 - 5 - 6: four edges by 1 and two by 9.
        check.due("taken away", x.trail(0, 6), 22);
        x.edge(2, 3, 1);
        check.due("there again", x.trail(6, 0), 6);
        GraphEngines y = Graphs.line();
        y.edge(0, 1, 0);
        check.due("line without an edge", y.trail(0, 6), GraphEngines.NONE);
        y.edge(1, 0, 9);
        check.due("line with the edge again", y.trail(0, 6), 29);
    }

    private static void firstOutside() {
        GraphEngines x = Graphs.heavy();
        for (int v : NO_VERTEX) {
            for (int b = 0; b < 7; b++) {
                check.due("trail(" + v + ", " + b + ")", x.trail(v, b), GraphEngines.BAD);
            }
            check.due("none, from " + v, Graphs.none().trail(v, 0), GraphEngines.BAD);
        }
        Answers.dueSame(check, x, Graphs.heavy());
    }

    private static void secondOutside() {
        GraphEngines x = Graphs.heavy();
        for (int v : NO_VERTEX) {
            for (int a = 0; a < 7; a++) {
                check.due("trail(" + a + ", " + v + ")", x.trail(a, v), GraphEngines.BAD);
            }
            check.due("none, to " + v, Graphs.none().trail(6, v), GraphEngines.BAD);
        }
        Answers.dueSame(check, x, Graphs.heavy());
    }

    private static void bothOutside() {
        GraphEngines x = Graphs.heavy();
        for (int v : NO_VERTEX) {
            check.due("trail(" + v + ", " + v + ")", x.trail(v, v), GraphEngines.BAD);
            check.due("trail(" + v + ", 7)", x.trail(v, 7), GraphEngines.BAD);
            check.due("trail(-1, " + v + ")", x.trail(-1, v), GraphEngines.BAD);
        }
        Answers.dueSame(check, x, Graphs.heavy());
    }

    private static void same() {
        GraphEngines x = Graphs.heavy();
        for (int v = 0; v < 7; v++) {
            check.due("trail(" + v + ", " + v + ")", x.trail(v, v), GraphEngines.BAD);
            check.due("none, " + v, Graphs.none().trail(v, v), GraphEngines.BAD);
            check.due("complete, " + v, Graphs.complete(1).trail(v, v), GraphEngines.BAD);
        }
        Answers.dueSame(check, x, Graphs.heavy());
    }
}
