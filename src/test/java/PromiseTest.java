import support.Check;

/**
 * For each promise: answers worked out by hand, the edges that the document names, and wrong
 * inputs.
 */
public final class PromiseTest {
    private static final int[] FAR_OUT = {Integer.MIN_VALUE, -100, -1, 128, 1000, Integer.MAX_VALUE};

    private static final Check check = new Check();

    public static void main(String[] args) {
        newObject();
        edge();
        colours();
        chromatic();
        coefficient();
        tours();
        tour();
        trail();
        longest();
        link();
        cut();
        matchings();
        dominators();
        width();
        spread();
        layout();
        loose();
        check.end();
    }

    // Graphs

    private static GraphEngines complete(int w) {
        GraphEngines x = new GraphEngines();
        for (int a = 0; a < 7; a++) {
            for (int b = a + 1; b < 7; b++) {
                x.edge(a, b, w);
            }
        }
        return x;
    }

    /** 0 - 1 - .. - 6 with the weights 1 to 6. */
    private static GraphEngines line() {
        GraphEngines x = new GraphEngines();
        for (int v = 0; v < 6; v++) {
            x.edge(v, v + 1, v + 1);
        }
        return x;
    }

    /** The line, closed by an edge between 6 and 0 with weight 7. */
    private static GraphEngines ring() {
        GraphEngines x = line();
        x.edge(6, 0, 7);
        return x;
    }

    /** 3 in the middle, the edge to v with the weight v + 1. */
    private static GraphEngines star() {
        GraphEngines x = new GraphEngines();
        for (int v = 0; v < 7; v++) {
            x.edge(3, v, v + 1);
        }
        return x;
    }

    /** A ring 0 .. 5 of weight 1 an edge, and 6 a neighbour of all of it by weight 3. */
    private static GraphEngines wheel() {
        GraphEngines x = new GraphEngines();
        for (int v = 0; v < 6; v++) {
            x.edge(v, (v + 1) % 6, 1);
            x.edge(6, v, 3);
        }
        return x;
    }

    /** The triangles 0 1 2 and 3 4 5, weights 1 2 3 and 4 5 6, and 6 alone. */
    private static GraphEngines triangles() {
        GraphEngines x = new GraphEngines();
        x.edge(0, 1, 1);
        x.edge(1, 2, 2);
        x.edge(0, 2, 3);
        x.edge(3, 4, 4);
        x.edge(4, 5, 5);
        x.edge(3, 5, 6);
        return x;
    }

    /** Each of 0 1 2 is a neighbour of each of 3 4 5 6, all by weight 2. */
    private static GraphEngines bipartite() {
        GraphEngines x = new GraphEngines();
        for (int a = 0; a < 3; a++) {
            for (int b = 3; b < 7; b++) {
                x.edge(a, b, 2);
            }
        }
        return x;
    }

    // Promises

    private static void newObject() {
        GraphEngines other = complete(9);
        GraphEngines x = new GraphEngines();
        check.due("1: matchings(1)", x.matchings(1), 0);
        check.due("1: coefficient(6)", x.coefficient(6), 0);
        check.due("1: cut()", x.cut(), 0);
        check.due("1: colours(9)", x.colours(9), 4782969);
        check.due("1: BAD", GraphEngines.BAD, -1);
        check.due("1: NONE", GraphEngines.NONE, -2);
        x.edge(0, 1, 1);
        check.due("1: the other object", other.layout(), 9 * 56);
    }

    private static void edge() {
        GraphEngines x = new GraphEngines();
        check.due("2: edge(0, 6, 1)", x.edge(0, 6, 1), true);
        check.due("2: weight 1", x.cut(), 1);
        check.due("2: edge(6, 0, 9)", x.edge(6, 0, 9), true);
        check.due("2: weight 9 in place of 1", x.cut(), 9);
        check.due("2: one edge still", x.matchings(1), 1);
        edgeRefused(x);
        check.due("2: nothing changed", x.cut(), 9);
        check.due("2: no edge added", x.matchings(1), 1);
        check.due("2: edge(0, 6, 0)", x.edge(0, 6, 0), true);
        check.due("2: taken away", x.matchings(1), 0);
        check.due("2: no weight left", x.cut(), 0);
        check.due("2: no path left", x.longest(6), 0);
        check.due("2: taken away again", x.edge(6, 0, 0), true);
        check.due("2: none to take away", x.edge(2, 3, 0), true);
        check.due("2: still none", x.matchings(1), 0);
    }

    private static void edgeRefused(GraphEngines x) {
        int[] noVertex = {Integer.MIN_VALUE, -7, -1, 7, 8, 32, Integer.MAX_VALUE};
        for (int v : noVertex) {
            check.due("2: edge(" + v + ", 1, 1)", x.edge(v, 1, 1), false);
            check.due("2: edge(1, " + v + ", 1)", x.edge(1, v, 1), false);
            check.due("2: edge(0, " + v + ", 0)", x.edge(0, v, 0), false);
            check.due("2: edge of no vertices", x.edge(v, v, 1), false);
        }
        int[] noWeight = {Integer.MIN_VALUE, -1, 10, Integer.MAX_VALUE};
        for (int w : noWeight) {
            check.due("2: edge(0, 6, " + w + ")", x.edge(0, 6, w), false);
            check.due("2: edge(1, 2, " + w + ")", x.edge(1, 2, w), false);
        }
        for (int v = 0; v < 7; v++) {
            check.due("2: edge to itself", x.edge(v, v, 1), false);
            check.due("2: no edge to itself", x.edge(v, v, 0), false);
        }
    }

    private static void colours() {
        check.due("3: none, 0", new GraphEngines().colours(0), 0);
        check.due("3: none, 1", new GraphEngines().colours(1), 1);
        check.due("3: none, 2", new GraphEngines().colours(2), 128);
        check.due("3: complete, 6", complete(1).colours(6), 0);
        check.due("3: complete, 7", complete(1).colours(7), 5040);
        check.due("3: complete, 9", complete(1).colours(9), 181440);
        check.due("3: line, 1", line().colours(1), 0);
        check.due("3: line, 2", line().colours(2), 2);
        check.due("3: line, 9", line().colours(9), 9 * 262144);
        check.due("3: ring, 2", ring().colours(2), 0);
        check.due("3: ring, 3", ring().colours(3), 126);
        check.due("3: wheel, 3", wheel().colours(3), 6);
        check.due("3: wheel, 4", wheel().colours(4), 264);
        check.due("3: triangles, 3", triangles().colours(3), 6 * 6 * 3);
        check.due("3: bipartite, 2", bipartite().colours(2), 2);
        GraphEngines x = wheel();
        check.due("3: colours(10)", x.colours(10), GraphEngines.BAD);
        for (int k : FAR_OUT) {
            check.due("3: colours(" + k + ")", x.colours(k), GraphEngines.BAD);
        }
    }

    private static void chromatic() {
        check.due("4: none", new GraphEngines().chromatic(), 1);
        check.due("4: line", line().chromatic(), 2);
        check.due("4: bipartite", bipartite().chromatic(), 2);
        check.due("4: ring", ring().chromatic(), 3);
        check.due("4: wheel", wheel().chromatic(), 3);
        check.due("4: complete", complete(1).chromatic(), 7);
        GraphEngines x = complete(1);
        x.edge(2, 5, 0);
        check.due("4: complete but one edge", x.chromatic(), 6);
    }

    private static void coefficient() {
        int[] completeOnes = {0, 720, -1764, 1624, -735, 175, -21, 1};
        int[] lineOnes = {0, 1, -6, 15, -20, 15, -6, 1};
        int[] ringOnes = {0, 6, -21, 35, -35, 21, -7, 1};
        int[] noneOnes = {0, 0, 0, 0, 0, 0, 0, 1};
        coefficientsDue("none", new GraphEngines(), noneOnes);
        coefficientsDue("complete", complete(3), completeOnes);
        coefficientsDue("line", line(), lineOnes);
        coefficientsDue("ring", ring(), ringOnes);
    }

    private static void coefficientsDue(String name, GraphEngines x, int[] want) {
        for (int i = 0; i < want.length; i++) {
            check.due("5: " + name + ", " + i, x.coefficient(i), want[i]);
        }
        check.due("5: " + name + ", 8", x.coefficient(8), 0);
        for (int i : FAR_OUT) {
            check.due("5: " + name + ", " + i, x.coefficient(i), 0);
        }
    }

    private static void tours() {
        check.due("6: none", new GraphEngines().tours(), 0);
        check.due("6: complete", complete(1).tours(), 360);
        check.due("6: line", line().tours(), 0);
        check.due("6: ring", ring().tours(), 1);
        check.due("6: wheel", wheel().tours(), 6);
        check.due("6: triangles", triangles().tours(), 0);
        check.due("6: bipartite", bipartite().tours(), 0);
    }

    private static void tour() {
        check.due("7: none", new GraphEngines().tour(), GraphEngines.NONE);
        check.due("7: complete", complete(9).tour(), 63);
        check.due("7: line", line().tour(), GraphEngines.NONE);
        check.due("7: ring", ring().tour(), 28);
        check.due("7: wheel", wheel().tour(), 11);
        check.due("7: star", star().tour(), GraphEngines.NONE);
        GraphEngines x = wheel();
        x.edge(2, 3, 9);
        check.due("7: wheel around the heavy edge", x.tour(), 11);
    }

    private static void trail() {
        GraphEngines x = line();
        check.due("8: line, 0 to 6", x.trail(0, 6), 21);
        check.due("8: line, 6 to 0", x.trail(6, 0), 21);
        check.due("8: line, 0 to 5", x.trail(0, 5), GraphEngines.NONE);
        check.due("8: line, 1 to 6", x.trail(1, 6), GraphEngines.NONE);
        check.due("8: ring, 2 to 3", ring().trail(2, 3), 25);
        check.due("8: ring, 2 to 4", ring().trail(2, 4), GraphEngines.NONE);
        check.due("8: wheel, 6 to 2", wheel().trail(6, 2), 8);
        check.due("8: wheel, 0 to 1", wheel().trail(0, 1), 10);
        check.due("8: complete", complete(9).trail(5, 1), 54);
        check.due("8: none", new GraphEngines().trail(0, 1), GraphEngines.NONE);
        for (int v = 0; v < 7; v++) {
            check.due("8: from " + v + " to itself", x.trail(v, v), GraphEngines.BAD);
        }
        check.due("8: trail(7, 0)", x.trail(7, 0), GraphEngines.BAD);
        check.due("8: trail(0, 7)", x.trail(0, 7), GraphEngines.BAD);
        check.due("8: trail(7, 7)", x.trail(7, 7), GraphEngines.BAD);
        for (int v : FAR_OUT) {
            check.due("8: trail(" + v + ", 0)", x.trail(v, 0), GraphEngines.BAD);
            check.due("8: trail(0, " + v + ")", x.trail(0, v), GraphEngines.BAD);
        }
    }

    private static void longest() {
        GraphEngines x = line();
        check.due("9: line, 0", x.longest(0), 21);
        check.due("9: line, 6", x.longest(6), 21);
        check.due("9: line, 2", x.longest(2), 18);
        check.due("9: line, 5", x.longest(5), 15);
        check.due("9: ring, 0", ring().longest(0), 27);
        check.due("9: star, middle", star().longest(3), 7);
        check.due("9: star, 6", star().longest(6), 13);
        check.due("9: star, 0", star().longest(0), 8);
        check.due("9: triangles, 0", triangles().longest(0), 5);
        check.due("9: triangles, alone", triangles().longest(6), 0);
        check.due("9: complete", complete(9).longest(3), 54);
        check.due("9: none", new GraphEngines().longest(0), 0);
        check.due("9: longest(7)", x.longest(7), GraphEngines.BAD);
        for (int v : FAR_OUT) {
            check.due("9: longest(" + v + ")", x.longest(v), GraphEngines.BAD);
        }
    }

    private static void link() {
        GraphEngines x = star();
        check.due("10: star, nothing", x.link(0), 0);
        for (int v = 0; v < 7; v++) {
            check.due("10: star, one vertex", x.link(1 << v), 0);
        }
        check.due("10: star, 0 and 1 over 3", x.link(0b11), 3);
        check.due("10: star, 5 and 3", x.link(0b101000), 6);
        check.due("10: star, all", x.link(127), 24);
        check.due("10: triangles, 0 and 2", triangles().link(0b101), 3);
        check.due("10: triangles, 0 1 2", triangles().link(0b111), 3);
        check.due("10: triangles, 2 and 3", triangles().link(0b1100), GraphEngines.NONE);
        check.due("10: triangles, 5 and 6", triangles().link(0b1100000), GraphEngines.NONE);
        check.due("10: triangles, all", triangles().link(127), GraphEngines.NONE);
        check.due("10: ring, 0 and 6 the short way", ring().link(0b1000001), 7);
        check.due("10: ring, 0 and 5", ring().link(0b100001), 13);
        check.due("10: wheel, 0 2 4", wheel().link(0b010101), 4);
        check.due("10: none, nothing", new GraphEngines().link(0), 0);
        check.due("10: none, 6", new GraphEngines().link(64), 0);
        check.due("10: none, 5 and 6", new GraphEngines().link(96), GraphEngines.NONE);
        for (int set : FAR_OUT) {
            check.due("10: link(" + set + ")", x.link(set), GraphEngines.BAD);
        }
    }

    private static void cut() {
        check.due("11: none", new GraphEngines().cut(), 0);
        check.due("11: line", line().cut(), 21);
        check.due("11: ring", ring().cut(), 27);
        check.due("11: bipartite", bipartite().cut(), 24);
        check.due("11: triangles", triangles().cut(), 5 + 11);
        check.due("11: complete", complete(9).cut(), 108);
    }

    private static void matchings() {
        int[] noneOnes = {1, 0, 0, 0};
        int[] completeOnes = {1, 21, 105, 105};
        int[] lineOnes = {1, 6, 10, 4};
        int[] starOnes = {1, 6, 0, 0};
        int[] trianglesOnes = {1, 6, 9, 0};
        matchingsDue("none", new GraphEngines(), noneOnes);
        matchingsDue("complete", complete(2), completeOnes);
        matchingsDue("line", line(), lineOnes);
        matchingsDue("star", star(), starOnes);
        matchingsDue("triangles", triangles(), trianglesOnes);
    }

    private static void matchingsDue(String name, GraphEngines x, int[] want) {
        for (int k = 0; k < want.length; k++) {
            check.due("12: " + name + ", " + k, x.matchings(k), want[k]);
        }
        check.due("12: " + name + ", 4", x.matchings(4), GraphEngines.BAD);
        for (int k : FAR_OUT) {
            check.due("12: " + name + ", " + k, x.matchings(k), GraphEngines.BAD);
        }
    }

    private static void dominators() {
        int[] noneOnes = {0, 0, 0, 0, 0, 0, 0, 1};
        int[] completeOnes = {0, 7, 21, 35, 35, 21, 7, 1};
        int[] starOnes = {0, 1, 6, 15, 20, 15, 7, 1};
        int[] trianglesOnes = {0, 0, 0, 9, 18, 15, 6, 1};
        dominatorsDue("none", new GraphEngines(), noneOnes);
        dominatorsDue("complete", complete(1), completeOnes);
        dominatorsDue("star", star(), starOnes);
        dominatorsDue("triangles", triangles(), trianglesOnes);
    }

    private static void dominatorsDue(String name, GraphEngines x, int[] want) {
        for (int k = 0; k < want.length; k++) {
            check.due("13: " + name + ", " + k, x.dominators(k), want[k]);
        }
        check.due("13: " + name + ", 8", x.dominators(8), GraphEngines.BAD);
        for (int k : FAR_OUT) {
            check.due("13: " + name + ", " + k, x.dominators(k), GraphEngines.BAD);
        }
    }

    private static void width() {
        check.due("14: none", new GraphEngines().width(), 0);
        check.due("14: line", line().width(), 1);
        check.due("14: star", star().width(), 1);
        check.due("14: ring", ring().width(), 2);
        check.due("14: triangles", triangles().width(), 2);
        check.due("14: wheel", wheel().width(), 3);
        check.due("14: bipartite", bipartite().width(), 3);
        check.due("14: complete", complete(1).width(), 6);
    }

    private static void spread() {
        check.due("15: none", new GraphEngines().spread(), 0);
        check.due("15: line, whatever it weighs", line().spread(), 1);
        check.due("15: star", star().spread(), 3);
        check.due("15: ring", ring().spread(), 2);
        check.due("15: triangles", triangles().spread(), 2);
        check.due("15: complete", complete(9).spread(), 12);
    }

    private static void layout() {
        check.due("16: none", new GraphEngines().layout(), 0);
        check.due("16: line", line().layout(), 21);
        check.due("16: star", star().layout(), 7 + 6 + 2 * (5 + 3) + 3 * (2 + 1));
        check.due("16: triangles", triangles().layout(), (1 + 2 + 3 + 1) + (4 + 5 + 6 + 4));
        check.due("16: complete", complete(1).layout(), 56);
    }

    private static void loose() {
        check.due("17: none", new GraphEngines().loose(), 0);
        check.due("17: line", line().loose(), 0);
        check.due("17: star", star().loose(), 0);
        check.due("17: ring", ring().loose(), 1);
        check.due("17: triangles", triangles().loose(), 2);
        check.due("17: wheel", wheel().loose(), 2);
        check.due("17: bipartite", bipartite().loose(), 2);
        check.due("17: complete", complete(1).loose(), 5);
    }
}
