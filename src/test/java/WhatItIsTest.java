import java.util.function.ToIntFunction;

/** The sentence of 'What it is': an object is used for at most 512 calls, and these all hold. */
public final class WhatItIsTest {
    private static final int CALLS = 512;

    private static final Check check = new Check();

    public static void main(String[] args) {
        check.run("512 calls of one question each", WhatItIsTest::sameQuestion);
        check.run("511 calls of edge, then one question", WhatItIsTest::edgesThenQuestion);
        check.run("512 calls of edge", WhatItIsTest::edgesAlone);
        check.run("511 refused calls, then one question", WhatItIsTest::refusedThenQuestion);
        check.run("512 calls of all kinds", WhatItIsTest::allKinds);
        check.run("asking twice: the same answers", WhatItIsTest::askingTwice);
        check.end();
    }

    /** One question per promise from 3 on. */
    private enum Question {
        COLOURS(x -> x.colours(9)),
        CHROMATIC(GraphEngines::chromatic),
        COEFFICIENT(x -> x.coefficient(2)),
        TOURS(GraphEngines::tours),
        TOUR(GraphEngines::tour),
        TRAIL(x -> x.trail(0, 6)),
        LONGEST(x -> x.longest(6)),
        LINK(x -> x.link(127)),
        CUT(GraphEngines::cut),
        MATCHINGS(x -> x.matchings(3)),
        DOMINATORS(x -> x.dominators(3)),
        WIDTH(GraphEngines::width),
        SPREAD(GraphEngines::spread),
        LAYOUT(GraphEngines::layout),
        LOOSE(GraphEngines::loose);

        private final ToIntFunction<GraphEngines> ask;

        Question(ToIntFunction<GraphEngines> ask) {
            this.ask = ask;
        }
    }

    private static void sameQuestion() {
        for (Question q : Question.values()) {
            GraphEngines ring = Graphs.ring();
            int want = q.ask.applyAsInt(Graphs.ring());
            // The ring took seven calls.
            for (int call = 8; call <= CALLS; call++) {
                check.due(q + ", call " + call, q.ask.applyAsInt(ring), want);
            }
        }
    }

    /** Edges come and go by all weights; the last calls set every edge, so the graph is known. */
    private static void edgesThenQuestion() {
        for (Question q : Question.values()) {
            GraphEngines x = new GraphEngines();
            int call = 0;
            for (int a = 0; call < CALLS - 1 - 21; a = (a + 1) % 7) {
                x.edge(a, (a + 1 + call % 6) % 7, call % 10);
                call++;
            }
            for (int a = 0; a < 7; a++) {
                for (int b = a + 1; b < 7; b++) {
                    x.edge(a, b, 1);
                }
            }
            int want = q.ask.applyAsInt(Graphs.complete(1));
            check.due(q + ", call 512", q.ask.applyAsInt(x), want);
        }
    }

    private static void edgesAlone() {
        GraphEngines x = new GraphEngines();
        for (int call = 1; call <= CALLS; call++) {
            int a = call % 7;
            boolean wrong = call % 5 == 0;
            int b = (a + 1 + call % 6) % 7;
            check.due("call " + call, x.edge(a, wrong ? a : b, call % 10), !wrong);
        }
    }

    private static void refusedThenQuestion() {
        for (Question q : Question.values()) {
            GraphEngines x = Graphs.heavy();
            // Those took 14 calls.
            for (int call = 15; call < CALLS; call++) {
                askWrongly(x, call);
            }
            int want = q.ask.applyAsInt(Graphs.heavy());
            check.due(q + ", call 512", q.ask.applyAsInt(x), want);
        }
    }

    private static void askWrongly(GraphEngines x, int call) {
        switch (call % 8) {
            case 0 -> check.due("edge(7, 0, 1)", x.edge(7, 0, 1), false);
            case 1 -> check.due("edge(0, 1, 10)", x.edge(0, 1, 10), false);
            case 2 -> check.due("colours(10)", x.colours(10), GraphEngines.BAD);
            case 3 -> check.due("trail(3, 3)", x.trail(3, 3), GraphEngines.BAD);
            case 4 -> check.due("longest(-1)", x.longest(-1), GraphEngines.BAD);
            case 5 -> check.due("link(128)", x.link(128), GraphEngines.BAD);
            case 6 -> check.due("matchings(4)", x.matchings(4), GraphEngines.BAD);
            default -> check.due("dominators(8)", x.dominators(8), GraphEngines.BAD);
        }
    }

    /** Edges come and go between questions, and the oracle knows each answer. */
    private static void allKinds() {
        for (int run = 0; run < 4; run++) {
            GraphEngines x = new GraphEngines();
            Oracle oracle = new Oracle();
            for (int call = 1; call <= CALLS; call++) {
                // Each run meets the questions in another order, and each question some 20 times.
                int turn = call * (2 * run + 1) + call / 16;
                ask("run " + run + ", call " + call + ": ", x, oracle, turn % 24, call + run);
            }
        }
    }

    private static void ask(String name, GraphEngines x, Oracle o, int question, int n) {
        switch (question) {
            case 0 -> check.due(name + "colours", x.colours(n % 7), o.colours(n % 7));
            case 1 -> check.due(name + "chromatic", x.chromatic(), o.chromatic());
            case 2 -> check.due(name + "coefficient", -x.coefficient(6), o.matchings(1));
            case 3 -> check.due(name + "tours", x.tours(), o.tours());
            case 4 -> check.due(name + "tour", x.tour(), o.tour());
            case 5 -> check.due(name + "trail", x.trail(n % 6, 6), o.trail(n % 6, 6));
            case 6 -> check.due(name + "longest", x.longest(n % 7), o.longest(n % 7));
            case 7 -> check.due(name + "link", x.link(n % 128), o.links()[n % 128]);
            case 8 -> check.due(name + "cut", x.cut(), o.cut());
            case 9 -> check.due(name + "matchings", x.matchings(n % 4), o.matchings(n % 4));
            case 10 -> check.due(name + "dominators", x.dominators(n % 8), o.dominators(n % 8));
            case 11 -> check.due(name + "width", x.width(), o.width());
            case 12 -> check.due(name + "spread", x.spread(), o.spread());
            case 13 -> check.due(name + "layout", x.layout(), o.layout());
            case 14 -> check.due(name + "loose", x.loose(), o.loose());
            case 15 -> check.due(name + "wrong edge", x.edge(n % 7, n % 7, 1), false);
            default -> change(name, x, o, n);
        }
    }

    private static void change(String name, GraphEngines x, Oracle o, int n) {
        int a = n * 5 % 7;
        int b = (a + 1 + n / 7 % 6) % 7;
        int w = n % 4 == 0 ? 0 : 1 + n % 9;
        o.set(a, b, w);
        check.due(name + "edge", x.edge(a, b, w), true);
    }

    private static void askingTwice() {
        GraphEngines x = Graphs.heavy();
        GraphEngines once = Graphs.heavy();
        Answers.dueSame(check, x, once);
        Answers.dueSame(check, x, Graphs.heavy());
    }
}
