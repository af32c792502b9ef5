/** Every question with every argument that is allowed, 215 calls, so an object can bear it twice. */
final class Answers {
    private final Check check;
    private final GraphEngines x;
    private final GraphEngines like;

    private Answers(Check check, GraphEngines x, GraphEngines like) {
        this.check = check;
        this.x = x;
        this.like = like;
    }

    /** Due is that both objects answer the same, as they do if they hold the same graph. */
    static void dueSame(Check check, GraphEngines x, GraphEngines like) {
        new Answers(check, x, like).all();
    }

    private void all() {
        colourings();
        paths();
        sets();
        orders();
    }

    private void colourings() {
        for (int k = 0; k <= 9; k++) {
            check.due("then colours(" + k + ")", x.colours(k), like.colours(k));
        }
        check.due("then chromatic()", x.chromatic(), like.chromatic());
        for (int i = 0; i <= 7; i++) {
            check.due("then coefficient(" + i + ")", x.coefficient(i), like.coefficient(i));
        }
    }

    private void paths() {
        check.due("then tours()", x.tours(), like.tours());
        check.due("then tour()", x.tour(), like.tour());
        for (int a = 0; a < 7; a++) {
            check.due("then longest(" + a + ")", x.longest(a), like.longest(a));
            for (int b = 0; b < 7; b++) {
                if (a != b) {
                    check.due("then trail(" + a + ", " + b + ")", x.trail(a, b), like.trail(a, b));
                }
            }
        }
    }

    private void sets() {
        for (int set = 0; set <= 127; set++) {
            check.due("then link(" + set + ")", x.link(set), like.link(set));
        }
        check.due("then cut()", x.cut(), like.cut());
        for (int k = 0; k <= 3; k++) {
            check.due("then matchings(" + k + ")", x.matchings(k), like.matchings(k));
        }
        for (int k = 0; k <= 7; k++) {
            check.due("then dominators(" + k + ")", x.dominators(k), like.dominators(k));
        }
    }

    private void orders() {
        check.due("then width()", x.width(), like.width());
        check.due("then spread()", x.spread(), like.spread());
        check.due("then layout()", x.layout(), like.layout());
        check.due("then loose()", x.loose(), like.loose());
    }
}
