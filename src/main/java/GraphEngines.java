/** Hard questions about a graph with seven vertices. */
public final class GraphEngines {
    public static final int BAD = -1;
    public static final int NONE = -2;

    private static final int VERTICES = 7;
    private static final int PAIRS = 49;
    private static final int SETS = 128;
    private static final int ALL = 127;
    private static final int SET_ENDS = 896;
    private static final int BLOCK_SETS = 1024;
    private static final int POWERS = 8;

    private static final int MAX_WEIGHT = 9;
    private static final int MAX_COLOURS = 9;
    private static final int MAX_MATCHING = 3;

    // Stands for "there is none" where the smallest is sought: above every weight and cost.
    private static final int FAR = 1000000;

    // The graph. Both arrays tell of each edge at both its ends, and only linkUp writes them.
    private final int[] weights = new int[PAIRS];
    private final int[] near = new int[VERTICES];

    // Room to reckon in. Each question fills what it uses anew, so nothing is carried over.
    private final int[] splits = new int[BLOCK_SETS];
    private final int[] powers = new int[POWERS];
    private final int[] ways = new int[SET_ENDS];
    private final int[] paths = new int[SET_ENDS];
    private final int[] pairings = new int[SETS];
    private final int[] costs = new int[SETS];

    public GraphEngines() {
        // New arrays hold zeros, and that is the graph with no edges.
    }

    public boolean edge(int a, int b, int w) {
        if (!isVertex(a) || !isVertex(b) || a == b || w < 0 || w > MAX_WEIGHT) {
            return false;
        }
        linkUp(a, b, w);
        linkUp(b, a, w);
        return true;
    }

    public int colours(int k) {
        if (k < 0 || k > MAX_COLOURS) {
            return BAD;
        }
        fillSplits();
        int sum = 0;
        // The ways to give the blocks different colours; it stays 0 once the colours have run out.
        int choices = 1;
        for (int blocks = 1; blocks <= VERTICES; blocks++) {
            choices *= k - blocks + 1;
            sum += choices * splits[blocks * SETS + ALL];
        }
        return sum;
    }

    public int chromatic() {
        fillSplits();
        for (int blocks = 1; blocks < VERTICES; blocks++) {
            if (splits[blocks * SETS + ALL] > 0) {
                return blocks;
            }
        }
        // Seven blocks of one vertex each always do.
        return VERTICES;
    }

    public int coefficient(int i) {
        if (i < 0 || i >= POWERS) {
            return 0;
        }
        fillSplits();
        fillPowers();
        return powers[i];
    }

    public int tours() {
        fillWays();
        int sum = 0;
        for (int end = 1; end < VERTICES; end++) {
            if (has(near[0], end)) {
                sum += ways[ALL * VERTICES + end];
            }
        }
        // A tour is a set of edges, and vertex 0 sees each one in both directions.
        return sum / 2;
    }

    public int tour() {
        fillPaths(0, 1);
        int best = FAR;
        for (int end = 1; end < VERTICES; end++) {
            if (has(near[0], end)) {
                best = smaller(best, paths[ALL * VERTICES + end] + weights[end]);
            }
        }
        return orNone(best);
    }

    public int trail(int a, int b) {
        if (!isVertex(a) || !isVertex(b) || a == b) {
            return BAD;
        }
        fillPaths(a, 1);
        return orNone(paths[ALL * VERTICES + b]);
    }

    public int longest(int a) {
        if (!isVertex(a)) {
            return BAD;
        }
        fillPaths(a, -1);
        int best = 0;
        for (int i = 0; i < SET_ENDS; i++) {
            best = smaller(best, paths[i]);
        }
        return -best;
    }

    public int link(int set) {
        if (set < 0 || set > ALL) {
            return BAD;
        }
        int best = FAR;
        // The lightest way may lead over vertices outside the set, so every larger set is tried.
        for (int over = set; over < SETS; over++) {
            if ((over & set) == set) {
                int weight = treeWeight(over);
                best = smaller(best, weight);
            }
        }
        return orNone(best);
    }

    public int cut() {
        int best = 0;
        for (int set = 0; set < SETS; set++) {
            int weight = weightAcross(set);
            best = greater(best, weight);
        }
        return best;
    }

    public int matchings(int k) {
        if (k < 0 || k > MAX_MATCHING) {
            return BAD;
        }
        fillPairings();
        int sum = 0;
        for (int set = 0; set < SETS; set++) {
            if (size(set) == 2 * k) {
                sum += pairings[set];
            }
        }
        return sum;
    }

    public int dominators(int k) {
        if (k < 0 || k > VERTICES) {
            return BAD;
        }
        int count = 0;
        for (int set = 0; set < SETS; set++) {
            if (size(set) == k && dominates(set)) {
                count++;
            }
        }
        return count;
    }

    public int width() {
        costs[0] = 0;
        for (int gone = 1; gone < SETS; gone++) {
            int best = FAR;
            for (int last = 0; last < VERTICES; last++) {
                if (has(gone, last)) {
                    int before = gone ^ 1 << last;
                    int left = neighboursLeft(before, last);
                    int cost = greater(costs[before], left);
                    best = smaller(best, cost);
                }
            }
            costs[gone] = best;
        }
        return costs[ALL];
    }

    public int spread() {
        costs[0] = 0;
        for (int set = 1; set < SETS; set++) {
            int before = cheapestBefore(set);
            int across = edgesAcross(set);
            costs[set] = greater(before, across);
        }
        return costs[ALL];
    }

    public int layout() {
        costs[0] = 0;
        for (int set = 1; set < SETS; set++) {
            // An edge leads across as many places as its ends are apart, so its weight is
            // added just that often.
            costs[set] = cheapestBefore(set) + weightAcross(set);
        }
        return costs[ALL];
    }

    public int loose() {
        int best = VERTICES;
        for (int out = 0; out < SETS; out++) {
            if (isForest(ALL ^ out)) {
                int count = size(out);
                best = smaller(best, count);
            }
        }
        return best;
    }

    private static boolean isVertex(int v) {
        return v >= 0 && v < VERTICES;
    }

    private static boolean has(int set, int v) {
        return (set >> v & 1) != 0;
    }

    private static int size(int set) {
        int count = 0;
        for (int v = 0; v < VERTICES; v++) {
            count += set >> v & 1;
        }
        return count;
    }

    private static int smaller(int a, int b) {
        return a < b ? a : b;
    }

    private static int greater(int a, int b) {
        return a > b ? a : b;
    }

    // At or above FAR: a sum in which one part was FAR is none either.
    private static int orNone(int weight) {
        return weight < FAR ? weight : NONE;
    }

    private void linkUp(int a, int b, int w) {
        weights[a * VERTICES + b] = w;
        if (w > 0) {
            near[a] |= 1 << b;
        } else {
            near[a] &= ~(1 << b);
        }
    }

    // splits[n * SETS + set]: the ways to split the set into n blocks with no neighbours inside
    // one. A colouring is such a splitting of all vertices with a colour for each block.
    private void fillSplits() {
        for (int i = 0; i < BLOCK_SETS; i++) {
            splits[i] = 0;
        }
        splits[0] = 1;
        for (int set = 1; set < SETS; set++) {
            int first = set & -set;
            for (int block = first; block <= set; block++) {
                // Only the block of the set's first vertex, so that each splitting counts once.
                if ((block & set) == block && (block & first) != 0 && isIndependent(block)) {
                    addSplits(set, block);
                }
            }
        }
    }

    private void addSplits(int set, int block) {
        int rest = set ^ block;
        for (int blocks = 1; blocks <= VERTICES; blocks++) {
            splits[blocks * SETS + set] += splits[(blocks - 1) * SETS + rest];
        }
    }

    private boolean isIndependent(int set) {
        for (int v = 0; v < VERTICES; v++) {
            if (has(set, v) && (near[v] & set) != 0) {
                return false;
            }
        }
        return true;
    }

    // The polynomial is s1 k + s2 k (k - 1) + s3 k (k - 1) (k - 2) + .. with the splittings of
    // all vertices as s1, s2, ..; it is multiplied out from the innermost bracket.
    private void fillPowers() {
        for (int i = 0; i < POWERS; i++) {
            powers[i] = 0;
        }
        for (int blocks = VERTICES; blocks >= 0; blocks--) {
            for (int i = POWERS - 1; i > 0; i--) {
                powers[i] = powers[i - 1] - blocks * powers[i];
            }
            powers[0] = splits[blocks * SETS + ALL] - blocks * powers[0];
        }
    }

    // ways[set * VERTICES + end]: the number of paths from vertex 0 to the end with just the
    // set's vertices.
    private void fillWays() {
        for (int i = 0; i < SET_ENDS; i++) {
            ways[i] = 0;
        }
        ways[VERTICES] = 1;
        for (int set = 1; set < SETS; set++) {
            for (int end = 0; end < VERTICES; end++) {
                passWaysOn(set, end);
            }
        }
    }

    private void passWaysOn(int set, int end) {
        int onward = near[end] & ~set;
        for (int v = 0; v < VERTICES; v++) {
            if (has(onward, v)) {
                ways[(set | 1 << v) * VERTICES + v] += ways[set * VERTICES + end];
            }
        }
    }

    // paths[set * VERTICES + end]: the smallest weight, times the factor, of a path from the
    // start to the end with just the set's vertices. With the factor -1 it is the greatest
    // weight, below zero.
    private void fillPaths(int start, int factor) {
        for (int i = 0; i < SET_ENDS; i++) {
            paths[i] = FAR;
        }
        paths[(1 << start) * VERTICES + start] = 0;
        for (int set = 1; set < SETS; set++) {
            for (int end = 0; end < VERTICES; end++) {
                if (paths[set * VERTICES + end] < FAR) {
                    lengthenPath(set, end, factor);
                }
            }
        }
    }

    private void lengthenPath(int set, int end, int factor) {
        int onward = near[end] & ~set;
        int sofar = paths[set * VERTICES + end];
        for (int v = 0; v < VERTICES; v++) {
            if (has(onward, v)) {
                int longer = (set | 1 << v) * VERTICES + v;
                int weight = sofar + factor * weights[end * VERTICES + v];
                paths[longer] = smaller(paths[longer], weight);
            }
        }
    }

    // The smallest weight of edges inside the set that hold all of it together; FAR if they can't.
    private int treeWeight(int set) {
        int reached = set & -set;
        int sum = 0;
        for (int step = 1; step < VERTICES && reached != set; step++) {
            int pair = lightestPair(reached, set ^ reached);
            if (pair == NONE) {
                return FAR;
            }
            sum += weights[pair];
            reached |= 1 << pair % VERTICES;
        }
        return sum;
    }

    // The place in weights of the lightest edge between two sets, the second one's vertex last.
    private int lightestPair(int from, int to) {
        int best = FAR;
        int pair = NONE;
        for (int a = 0; a < VERTICES; a++) {
            int ends = has(from, a) ? near[a] & to : 0;
            for (int b = 0; b < VERTICES; b++) {
                if (has(ends, b) && weights[a * VERTICES + b] < best) {
                    best = weights[a * VERTICES + b];
                    pair = a * VERTICES + b;
                }
            }
        }
        return pair;
    }

    private int weightAcross(int set) {
        int sum = 0;
        for (int a = 0; a < VERTICES; a++) {
            for (int b = 0; b < VERTICES; b++) {
                if (has(set, a) && !has(set, b)) {
                    sum += weights[a * VERTICES + b];
                }
            }
        }
        return sum;
    }

    private int edgesAcross(int set) {
        int count = 0;
        for (int v = 0; v < VERTICES; v++) {
            if (has(set, v)) {
                count += size(near[v] & ~set);
            }
        }
        return count;
    }

    // pairings[set]: the number of ways to pair all vertices of the set with neighbours in it.
    private void fillPairings() {
        pairings[0] = 1;
        for (int set = 1; set < SETS; set++) {
            int first = set & -set;
            int sum = 0;
            for (int v = 0; v < VERTICES; v++) {
                // Only the partners of the set's first vertex, so that each way counts once.
                if (has(set, v) && (near[v] & first) != 0) {
                    sum += pairings[set ^ first ^ 1 << v];
                }
            }
            pairings[set] = sum;
        }
    }

    private boolean dominates(int set) {
        int covered = set;
        for (int v = 0; v < VERTICES; v++) {
            if (has(set, v)) {
                covered |= near[v];
            }
        }
        return covered == ALL;
    }

    // When vertices go, those left are neighbours just if a path over gone ones joins them.
    private int neighboursLeft(int gone, int v) {
        int reached = 1 << v;
        for (int round = 0; round < VERTICES; round++) {
            for (int u = 0; u < VERTICES; u++) {
                if (has(reached, u) && (u == v || has(gone, u))) {
                    reached |= near[u];
                }
            }
        }
        return size(reached & ~gone & ~(1 << v));
    }

    // The smallest cost of an order of the set, up to the place before its last vertex.
    private int cheapestBefore(int set) {
        int best = FAR;
        for (int last = 0; last < VERTICES; last++) {
            if (has(set, last)) {
                best = smaller(best, costs[set ^ 1 << last]);
            }
        }
        return best;
    }

    // Two paths between two vertices make a circle, and a circle is what is left when vertices
    // with at most one neighbour have been taken off again and again.
    private boolean isForest(int set) {
        int left = set;
        for (int round = 0; round < VERTICES; round++) {
            for (int v = 0; v < VERTICES; v++) {
                if (size(near[v] & left) <= 1) {
                    left &= ~(1 << v);
                }
            }
        }
        return left == 0;
    }
}
