/** Promise 16: layout. */
public final class Promise16LayoutTest {
    private static final Check check = new Check();

    public static void main(String[] args) {
        check.run("16 no edges", Promise16LayoutTest::noEdges);
        check.run("16 every edge, the smallest and the greatest weight", Promise16LayoutTest::everyEdge);
        check.run("16 one edge: side by side", Promise16LayoutTest::oneEdge);
        check.run("16 lines: side by side in any order of the numbers", Promise16LayoutTest::lines);
        check.run("16 weight times distance", Promise16LayoutTest::weightTimesDistance);
        check.run("16 an edge set again and taken away", Promise16LayoutTest::changed);
        check.end();
    }

    private static void noEdges() {
        check.due("layout()", Graphs.none().layout(), 0);
    }

    private static void everyEdge() {
        check.due("by weight 1", Graphs.complete(1).layout(), 56);
        check.due("by weight 9", Graphs.complete(9).layout(), 504);
    }

    private static void oneEdge() {
        for (int a = 0; a < 7; a++) {
            for (int b = 0; b < 7; b++) {
                if (a != b) {
                    check.due(a + " - " + b, Graphs.oneEdge(a, b, 9).layout(), 9);
                }
            }
        }
        check.due("by weight 1", Graphs.oneEdge(0, 6, 1).layout(), 1);
    }

    private static void lines() {
        check.due("line", Graphs.line().layout(), 21);
        GraphEngines x = new GraphEngines();
        int[] order = {3, 0, 5, 1, 6, 2, 4};
        for (int i = 0; i < 6; i++) {
            x.edge(order[i], order[i + 1], 9);
        }
        check.due("a line in another order", x.layout(), 54);
    }

    private static void weightTimesDistance() {
        // On each side of the middle one of the two heaviest comes first, and so on outwards.
        check.due("star", Graphs.star().layout(), 7 + 6 + 2 * (5 + 3) + 3 * (2 + 1));
        // In each triangle the lightest edge leads over the vertex between its ends.
        check.due("triangles", Graphs.triangles().layout(), (1 + 2 + 3 + 1) + (4 + 5 + 6 + 4));
        check.due("ring of 7", Graphs.ringOf(7).layout(), 12);
        check.due("ring, the lightest edge the longest", Graphs.ring().layout(), 27 + 6);
    }

    private static void changed() {
        GraphEngines x = Graphs.line();
        x.edge(5, 6, 9);
        check.due("set again to more", x.layout(), 24);
        x.edge(6, 5, 1);
        check.due("set again to less", x.layout(), 16);
        x.edge(5, 6, 0);
        check.due("taken away", x.layout(), 15);
        x.edge(6, 5, 6);
        check.due("there again", x.layout(), 21);
        GraphEngines y = Graphs.oneEdge(0, 6, 9);
        y.edge(6, 0, 0);
        check.due("the last edge taken away", y.layout(), 0);
    }
}
