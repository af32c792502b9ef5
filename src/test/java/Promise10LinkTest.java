/** Promise 10: link. */
public final class Promise10LinkTest {
    private static final Check check = new Check();

    public static void main(String[] args) {
        check.run("10 no edges", Promise10LinkTest::noEdges);
        check.run("10 every edge, the smallest and the greatest weight", Promise10LinkTest::everyEdge);
        check.run("10 the empty set needs no edges", Promise10LinkTest::emptySet);
        check.run("10 a set of one vertex needs no edges", Promise10LinkTest::oneVertex);
        check.run("10 all vertices", Promise10LinkTest::allVertices);
        check.run("10 there is none: NONE", Promise10LinkTest::thereIsNone);
        check.run("10 over vertices that are not in the set", Promise10LinkTest::overOthers);
        check.run("10 the smallest weight", Promise10LinkTest::smallest);
        check.run("10 an edge set again and taken away", Promise10LinkTest::changed);
        check.run("10 set outside 0..127: BAD", Promise10LinkTest::outside);
        check.end();
    }

    private static void noEdges() {
        GraphEngines x = Graphs.none();
        for (int set = 0; set <= 127; set++) {
            int want = Integer.bitCount(set) < 2 ? 0 : GraphEngines.NONE;
            check.due("link(" + set + ")", x.link(set), want);
        }
    }

    private static void everyEdge() {
        GraphEngines light = Graphs.complete(1);
        GraphEngines heavy = Graphs.complete(9);
        for (int set = 1; set <= 127; set++) {
            int edges = Integer.bitCount(set) - 1;
            check.due("by weight 1: link(" + set + ")", light.link(set), edges);
            check.due("by weight 9: link(" + set + ")", heavy.link(set), 9 * edges);
        }
    }

    private static void emptySet() {
        check.due("none", Graphs.none().link(0), 0);
        check.due("line", Graphs.line().link(0), 0);
        check.due("triangles", Graphs.triangles().link(0), 0);
        check.due("complete", Graphs.complete(9).link(0), 0);
    }

    private static void oneVertex() {
        for (int v = 0; v < 7; v++) {
            check.due("none, " + v, Graphs.none().link(1 << v), 0);
            check.due("star, " + v, Graphs.star().link(1 << v), 0);
            check.due("triangles, " + v, Graphs.triangles().link(1 << v), 0);
            check.due("complete, " + v, Graphs.complete(9).link(1 << v), 0);
        }
    }

    private static void allVertices() {
        check.due("none", Graphs.none().link(127), GraphEngines.NONE);
        check.due("line", Graphs.line().link(127), 21);
        check.due("star", Graphs.star().link(127), 24);
        check.due("ring", Graphs.ring().link(127), 21);
        check.due("wheel", Graphs.wheel().link(127), 8);
        check.due("triangles", Graphs.triangles().link(127), GraphEngines.NONE);
        check.due("bipartite", Graphs.bipartite().link(127), 12);
        check.due("clique of 6", Graphs.clique(6, 1).link(127), GraphEngines.NONE);
    }

    private static void thereIsNone() {
        GraphEngines x = Graphs.triangles();
        check.due("2 and 3", x.link(0b0001100), GraphEngines.NONE);
        check.due("5 and 6", x.link(0b1100000), GraphEngines.NONE);
        check.due("0 1 2 and 6", x.link(0b1000111), GraphEngines.NONE);
        check.due("both triangles", x.link(0b0111111), GraphEngines.NONE);
        check.due("one of them", x.link(0b0000111), 3);
        check.due("the other one", x.link(0b0111000), 9);
        check.due("only 6 is alone", Graphs.clique(6, 9).link(63), 45);
    }

    private static void overOthers() {
        check.due("star, 0 and 1 over 3", Graphs.star().link(0b0000011), 3);
        check.due("star, all but 3", Graphs.star().link(0b1110111), 24);
        check.due("line, 0 and 6", Graphs.line().link(0b1000001), 21);
        check.due("ring, 0 and 5", Graphs.ring().link(0b0100001), 13);
        check.due("wheel, 0 2 4", Graphs.wheel().link(0b0010101), 4);
        check.due("bipartite, 0 and 1", Graphs.bipartite().link(0b0000011), 4);
        check.due("bipartite, 3 4 5 6", Graphs.bipartite().link(0b1111000), 8);
    }

    private static void smallest() {
        check.due("star, 3 and 5", Graphs.star().link(0b0101000), 6);
        check.due("triangles, 0 and 2, the edge as good as the way", Graphs.triangles().link(5), 3);
        check.due("ring, 0 and 6 over the edge", Graphs.ring().link(0b1000001), 7);
        check.due("ring, 0 and 3 the short way", Graphs.ring().link(0b0001001), 6);
        check.due("light line, 0 and 6", Graphs.lightLine().link(0b1000001), 6);
    }

    private static void changed() {
        GraphEngines x = Graphs.ring();
        x.edge(0, 6, 1);
        check.due("set again to less", x.link(0b1000001), 1);
        check.due("all, without the heaviest", x.link(127), 16);
        x.edge(6, 0, 9);
        check.due("set again to more", x.link(0b1000001), 9);
        x.edge(0, 6, 0);
        check.due("taken away", x.link(0b1000001), 21);
        x.edge(3, 4, 0);
        check.due("another one taken away", x.link(0b1000001), GraphEngines.NONE);
        check.due("on one side", x.link(0b0001001), 6);
        x.edge(4, 3, 4);
        check.due("there again", x.link(0b1000001), 21);
    }

    private static void outside() {
        GraphEngines x = Graphs.heavy();
        for (int set : Outside.of(0, 127)) {
            check.due("link(" + set + ")", x.link(set), GraphEngines.BAD);
            check.due("none, " + set, Graphs.none().link(set), GraphEngines.BAD);
            check.due("complete, " + set, Graphs.complete(9).link(set), GraphEngines.BAD);
        }
        Answers.dueSame(check, x, Graphs.heavy());
    }
}
