/** Puts every question about many graphs to the program and to the oracle. */
public final class OracleTest {
    private static final int RANDOM_GRAPHS = 200;
    private static final int N = 7;

    private static final Check check = new Check();
    private static long seed = 20261115;

    public static void main(String[] args) {
        for (int graph = 0; graph < RANDOM_GRAPHS; graph++) {
            // The chance of an edge goes from none to all, so thin and thick graphs both come.
            compareRandom("random graph " + graph, graph % 11, graph % 3 == 0 ? 2 : 9);
        }
        for (int run = 0; run < 10; run++) {
            compareWhileChanging("changing graph " + run);
        }
        check.end();
    }

    private static int next(int bound) {
        seed = seed * 6364136223846793005L + 1442695040888963407L;
        return (int) ((seed >>> 33) % bound);
    }

    private static void compareRandom(String name, int tenths, int maxWeight) {
        GraphEngines program = new GraphEngines();
        Oracle oracle = new Oracle();
        for (int a = 0; a < N; a++) {
            for (int b = a + 1; b < N; b++) {
                if (next(10) < tenths) {
                    int w = 1 + next(maxWeight);
                    oracle.set(a, b, w);
                    // The ends may be given either way round.
                    boolean swap = next(2) == 0;
                    boolean taken = program.edge(swap ? b : a, swap ? a : b, w);
                    check.due(name + ": edge", taken, true);
                }
            }
        }
        compareAll(name, program, oracle);
        compareLinks(name, program, oracle);
    }

    /** Few questions a time: an object is only good for 512 calls. */
    private static void compareWhileChanging(String name) {
        GraphEngines program = new GraphEngines();
        Oracle oracle = new Oracle();
        for (int round = 0; round < 4; round++) {
            for (int change = 0; change < 12; change++) {
                int a = next(N);
                int b = (a + 1 + next(N - 1)) % N;
                int w = next(3) == 0 ? 0 : 1 + next(9);
                oracle.set(a, b, w);
                check.due(name + ": edge", program.edge(a, b, w), true);
                check.due(name + ": wrong edge", program.edge(a, b, 10 + next(9)), false);
            }
            compareAll(name + ", round " + round, program, oracle);
        }
    }

    private static void compareAll(String name, GraphEngines x, Oracle o) {
        compareColours(name, x, o);
        compareCoefficients(name, x, o);
        check.due(name + ": chromatic()", x.chromatic(), o.chromatic());
        check.due(name + ": tours()", x.tours(), o.tours());
        check.due(name + ": tour()", x.tour(), o.tour());
        for (int a = 0; a < N; a++) {
            check.due(name + ": longest(" + a + ")", x.longest(a), o.longest(a));
            for (int b = 0; b < N; b++) {
                int want = a == b ? GraphEngines.BAD : o.trail(a, b);
                check.due(name + ": trail(" + a + ", " + b + ")", x.trail(a, b), want);
            }
        }
        check.due(name + ": cut()", x.cut(), o.cut());
        for (int k = 0; k <= 3; k++) {
            check.due(name + ": matchings(" + k + ")", x.matchings(k), o.matchings(k));
        }
        for (int k = 0; k <= 7; k++) {
            check.due(name + ": dominators(" + k + ")", x.dominators(k), o.dominators(k));
        }
        check.due(name + ": width()", x.width(), o.width());
        check.due(name + ": spread()", x.spread(), o.spread());
        check.due(name + ": layout()", x.layout(), o.layout());
        check.due(name + ": loose()", x.loose(), o.loose());
    }

    private static void compareColours(String name, GraphEngines x, Oracle o) {
        for (int k = 0; k <= 5; k++) {
            check.due(name + ": colours(" + k + ")", x.colours(k), o.colours(k));
        }
        int many = 6 + next(4);
        check.due(name + ": colours(" + many + ")", x.colours(many), o.colours(many));
    }

    /** Two polynomials of the power 7 that are the same at eight places are the same. */
    private static void compareCoefficients(String name, GraphEngines x, Oracle o) {
        long[] coefficient = new long[8];
        for (int i = 0; i < 8; i++) {
            coefficient[i] = x.coefficient(i);
        }
        for (int k = 0; k < 8; k++) {
            long value = 0;
            for (int i = 7; i >= 0; i--) {
                value = value * k + coefficient[i];
            }
            check.due(name + ": the polynomial at " + k, value, o.colours(k));
        }
    }

    private static void compareLinks(String name, GraphEngines x, Oracle o) {
        int[] links = o.links();
        for (int set = 0; set < links.length; set++) {
            check.due(name + ": link(" + set + ")", x.link(set), links[set]);
        }
    }
}
