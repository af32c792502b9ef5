/** Promise 1, a new object, and the constants of the face. */
public final class Promise01NewObjectTest {
    private static final Check check = new Check();

    public static void main(String[] args) {
        check.run("1 the constants", Promise01NewObjectTest::constants);
        check.run("1 no edges: every answer", Promise01NewObjectTest::everyAnswer);
        check.run("1 no edges: each pair", Promise01NewObjectTest::eachPair);
        check.run("1 no edges, after another object was filled", Promise01NewObjectTest::afterAnother);
        check.run("1 two objects have each its own edges", Promise01NewObjectTest::twoObjects);
        check.end();
    }

    private static void constants() {
        check.due("BAD", GraphEngines.BAD, -1);
        check.due("NONE", GraphEngines.NONE, -2);
    }

    private static void everyAnswer() {
        GraphEngines x = new GraphEngines();
        int[] seventhPowers = {0, 1, 128, 2187, 16384, 78125, 279936, 823543, 2097152, 4782969};
        for (int k = 0; k <= 9; k++) {
            check.due("colours(" + k + ")", x.colours(k), seventhPowers[k]);
        }
        check.due("chromatic()", x.chromatic(), 1);
        for (int i = 0; i <= 7; i++) {
            check.due("coefficient(" + i + ")", x.coefficient(i), i == 7 ? 1 : 0);
            check.due("dominators(" + i + ")", x.dominators(i), i == 7 ? 1 : 0);
        }
        check.due("tours()", x.tours(), 0);
        check.due("tour()", x.tour(), GraphEngines.NONE);
        check.due("cut()", x.cut(), 0);
        for (int k = 0; k <= 3; k++) {
            check.due("matchings(" + k + ")", x.matchings(k), k == 0 ? 1 : 0);
        }
        check.due("width()", x.width(), 0);
        check.due("spread()", x.spread(), 0);
        check.due("layout()", x.layout(), 0);
        check.due("loose()", x.loose(), 0);
    }

    private static void eachPair() {
        GraphEngines x = new GraphEngines();
        for (int a = 0; a < 7; a++) {
            check.due("longest(" + a + ")", x.longest(a), 0);
            for (int b = 0; b < 7; b++) {
                if (a != b) {
                    int pair = 1 << a | 1 << b;
                    check.due("link(" + pair + ")", x.link(pair), GraphEngines.NONE);
                    check.due("trail(" + a + ", " + b + ")", x.trail(a, b), GraphEngines.NONE);
                }
            }
        }
    }

    private static void afterAnother() {
        GraphEngines other = Graphs.complete(9);
        check.due("the other's layout()", other.layout(), 504);
        GraphEngines x = new GraphEngines();
        check.due("matchings(1)", x.matchings(1), 0);
        check.due("coefficient(6)", x.coefficient(6), 0);
        check.due("layout()", x.layout(), 0);
    }

    private static void twoObjects() {
        GraphEngines one = new GraphEngines();
        GraphEngines two = new GraphEngines();
        one.edge(0, 1, 4);
        two.edge(5, 6, 9);
        check.due("link(3) of the first", one.link(3), 4);
        check.due("link(96) of the first", one.link(96), GraphEngines.NONE);
        check.due("link(3) of the second", two.link(3), GraphEngines.NONE);
        check.due("link(96) of the second", two.link(96), 9);
        one.edge(0, 1, 0);
        check.due("cut() of the first", one.cut(), 0);
        check.due("cut() of the second", two.cut(), 9);
    }
}
