/** Graphs whose answers can be worked out by hand, each on a new object. */
final class Graphs {
    private Graphs() {
    }

    static GraphEngines none() {
        return new GraphEngines();
    }

    static GraphEngines oneEdge(int a, int b, int w) {
        GraphEngines x = new GraphEngines();
        x.edge(a, b, w);
        return x;
    }

    /** Every edge, each with the same weight. */
    static GraphEngines complete(int w) {
        return clique(7, w);
    }

    /** Every edge between the first n vertices; the others are alone. */
    static GraphEngines clique(int n, int w) {
        GraphEngines x = new GraphEngines();
        for (int a = 0; a < n; a++) {
            for (int b = a + 1; b < n; b++) {
                x.edge(a, b, w);
            }
        }
        return x;
    }

    /** 0 - 1 - .. - 6 with the weights 1 to 6. */
    static GraphEngines line() {
        GraphEngines x = new GraphEngines();
        for (int v = 0; v < 6; v++) {
            x.edge(v, v + 1, v + 1);
        }
        return x;
    }

    /** The line, closed by an edge between 6 and 0 with weight 7. */
    static GraphEngines ring() {
        GraphEngines x = line();
        x.edge(6, 0, 7);
        return x;
    }

    /** A ring of the first n vertices, all by weight 1; the others are alone. */
    static GraphEngines ringOf(int n) {
        GraphEngines x = new GraphEngines();
        for (int v = 0; v < n; v++) {
            x.edge(v, (v + 1) % n, 1);
        }
        return x;
    }

    /** 3 in the middle, the edge to v with the weight v + 1. */
    static GraphEngines star() {
        GraphEngines x = new GraphEngines();
        for (int v = 0; v < 7; v++) {
            if (v != 3) {
                x.edge(3, v, v + 1);
            }
        }
        return x;
    }

    /** A ring 0 .. 5 of weight 1 an edge, and 6 a neighbour of all of it by weight 3. */
    static GraphEngines wheel() {
        GraphEngines x = ringOf(6);
        for (int v = 0; v < 6; v++) {
            x.edge(6, v, 3);
        }
        return x;
    }

    /** The triangles 0 1 2 and 3 4 5, weights 1 2 3 and 4 5 6, and 6 alone. */
    static GraphEngines triangles() {
        GraphEngines x = new GraphEngines();
        x.edge(0, 1, 1);
        x.edge(1, 2, 2);
        x.edge(0, 2, 3);
        x.edge(3, 4, 4);
        x.edge(4, 5, 5);
        x.edge(3, 5, 6);
        return x;
    }

    /** Each of 0 1 2 is a neighbour of each of 3 4 5 6, all by weight 2. */
    static GraphEngines bipartite() {
        GraphEngines x = new GraphEngines();
        for (int a = 0; a < 3; a++) {
            for (int b = 3; b < 7; b++) {
                x.edge(a, b, 2);
            }
        }
        return x;
    }

    /** Every edge: those of the line by weight 1, all others by weight 9. */
    static GraphEngines lightLine() {
        GraphEngines x = complete(9);
        for (int v = 0; v < 6; v++) {
            x.edge(v, v + 1, 1);
        }
        return x;
    }

    /**
     * Weights from 5 to 9 only, so that no way round is as light as an edge, and link tells the
     * weight of each edge. Some pairs have no edge.
     */
    static GraphEngines heavy() {
        GraphEngines x = new GraphEngines();
        for (int a = 0; a < 7; a++) {
            for (int b = a + 1; b < 7; b++) {
                if ((a + 2 * b) % 3 != 1) {
                    x.edge(a, b, 5 + (3 * a + b) % 5);
                }
            }
        }
        return x;
    }
}
