import java.util.HashSet;
import java.util.Set;

/**
 * Answers the document's questions by trying out everything, as its words say and with no thought
 * for speed, so that it shares no way of reckoning with the program.
 */
public final class Oracle {
    public static final int NONE = -2;
    private static final int N = 7;

    private final int[][] w = new int[N][N];

    public void set(int a, int b, int weight) {
        w[a][b] = weight;
        w[b][a] = weight;
    }

    public int colours(int k) {
        return colours(k, 0, new int[N]);
    }

    private int colours(int k, int v, int[] colour) {
        if (v == N) {
            return 1;
        }
        int sum = 0;
        for (int c = 1; c <= k; c++) {
            boolean fits = true;
            for (int u = 0; u < v; u++) {
                fits &= w[u][v] == 0 || colour[u] != c;
            }
            if (fits) {
                colour[v] = c;
                sum += colours(k, v + 1, colour);
            }
        }
        return sum;
    }

    public int chromatic() {
        int k = 0;
        while (colours(k) == 0) {
            k++;
        }
        return k;
    }

    public int tours() {
        return tourWeights()[1];
    }

    public int tour() {
        return tourWeights()[0];
    }

    private int[] tourWeights() {
        Set<Set<Integer>> seen = new HashSet<>();
        int best = Integer.MAX_VALUE;
        for (int[] order : Orders.ALL) {
            Set<Integer> edges = new HashSet<>();
            int weight = 0;
            boolean closed = true;
            for (int i = 0; i < N; i++) {
                int a = order[i];
                int b = order[(i + 1) % N];
                closed &= w[a][b] > 0;
                weight += w[a][b];
                edges.add(Math.min(a, b) * N + Math.max(a, b));
            }
            if (closed) {
                seen.add(edges);
                best = Math.min(best, weight);
            }
        }
        return new int[] {seen.isEmpty() ? NONE : best, seen.size()};
    }

    public int trail(int from, int to) {
        int best = Integer.MAX_VALUE;
        for (int[] order : Orders.ALL) {
            int weight = 0;
            boolean path = order[0] == from && order[N - 1] == to;
            for (int i = 1; i < N; i++) {
                path &= w[order[i - 1]][order[i]] > 0;
                weight += w[order[i - 1]][order[i]];
            }
            if (path) {
                best = Math.min(best, weight);
            }
        }
        return best == Integer.MAX_VALUE ? NONE : best;
    }

    public int longest(int from) {
        return longest(from, 1 << from);
    }

    private int longest(int end, int used) {
        int best = 0;
        for (int v = 0; v < N; v++) {
            if (w[end][v] > 0 && (used >> v & 1) == 0) {
                best = Math.max(best, w[end][v] + longest(v, used | 1 << v));
            }
        }
        return best;
    }

    /**
     * The answers for all 128 sets. Weights are above zero, so a lightest set of edges has no
     * circle and hence at most six edges: only those are tried.
     */
    public int[] links() {
        int[] best = new int[128];
        java.util.Arrays.fill(best, Integer.MAX_VALUE);
        int[] part = new int[N];
        for (int v = 0; v < N; v++) {
            part[v] = 1 << v;
        }
        links(0, 0, 0, part, best);
        for (int set = 0; set < 128; set++) {
            best[set] = best[set] == Integer.MAX_VALUE ? NONE : best[set];
        }
        return best;
    }

    private void links(int pair, int edges, int weight, int[] part, int[] best) {
        if (pair == N * N) {
            for (int set = 0; set < 128; set++) {
                if (isTogether(set, part)) {
                    best[set] = Math.min(best[set], weight);
                }
            }
            return;
        }
        links(pair + 1, edges, weight, part, best);
        int a = pair / N;
        int b = pair % N;
        if (a < b && w[a][b] > 0 && edges < 6) {
            int[] joined = part.clone();
            int both = part[a] | part[b];
            for (int v = 0; v < N; v++) {
                if ((both >> v & 1) == 1) {
                    joined[v] = both;
                }
            }
            links(pair + 1, edges + 1, weight + w[a][b], joined, best);
        }
    }

    private static boolean isTogether(int set, int[] part) {
        for (int v = 0; v < N; v++) {
            if ((set >> v & 1) == 1) {
                return (part[v] & set) == set;
            }
        }
        return true;
    }

    public int cut() {
        int best = 0;
        for (int set = 0; set < 128; set++) {
            int weight = 0;
            for (int a = 0; a < N; a++) {
                for (int b = a + 1; b < N; b++) {
                    weight += (set >> a & 1) != (set >> b & 1) ? w[a][b] : 0;
                }
            }
            best = Math.max(best, weight);
        }
        return best;
    }

    public int matchings(int k) {
        return matchings(k, 0, 0);
    }

    private int matchings(int k, int pair, int used) {
        if (k == 0) {
            return 1;
        }
        if (pair == N * N) {
            return 0;
        }
        int a = pair / N;
        int b = pair % N;
        int ends = 1 << a | 1 << b;
        int sum = matchings(k, pair + 1, used);
        if (a < b && w[a][b] > 0 && (used & ends) == 0) {
            sum += matchings(k - 1, pair + 1, used | ends);
        }
        return sum;
    }

    public int dominators(int k) {
        int count = 0;
        for (int set = 0; set < 128; set++) {
            boolean all = true;
            for (int v = 0; v < N; v++) {
                boolean reached = (set >> v & 1) == 1;
                for (int u = 0; u < N; u++) {
                    reached |= (set >> u & 1) == 1 && w[u][v] > 0;
                }
                all &= reached;
            }
            count += all && Integer.bitCount(set) == k ? 1 : 0;
        }
        return count;
    }

    public int width() {
        int best = Integer.MAX_VALUE;
        for (int[] order : Orders.ALL) {
            best = Math.min(best, costOfTakingApart(order));
        }
        return best;
    }

    private int costOfTakingApart(int[] order) {
        boolean[][] near = new boolean[N][N];
        for (int a = 0; a < N; a++) {
            for (int b = 0; b < N; b++) {
                near[a][b] = w[a][b] > 0;
            }
        }
        int cost = 0;
        for (int i = 0; i < N; i++) {
            int left = 0;
            for (int j = i + 1; j < N; j++) {
                left += near[order[i]][order[j]] ? 1 : 0;
                for (int k = i + 1; k < N; k++) {
                    if (j != k && near[order[i]][order[j]] && near[order[i]][order[k]]) {
                        near[order[j]][order[k]] = true;
                    }
                }
            }
            cost = Math.max(cost, left);
        }
        return cost;
    }

    public int spread() {
        int best = Integer.MAX_VALUE;
        for (int[] order : Orders.ALL) {
            int most = 0;
            for (int place = 0; place < N; place++) {
                int edges = 0;
                for (int i = 0; i <= place; i++) {
                    for (int j = place + 1; j < N; j++) {
                        edges += w[order[i]][order[j]] > 0 ? 1 : 0;
                    }
                }
                most = Math.max(most, edges);
            }
            best = Math.min(best, most);
        }
        return best;
    }

    public int layout() {
        int best = Integer.MAX_VALUE;
        for (int[] order : Orders.ALL) {
            int sum = 0;
            for (int i = 0; i < N; i++) {
                for (int j = i + 1; j < N; j++) {
                    sum += w[order[i]][order[j]] * (j - i);
                }
            }
            best = Math.min(best, sum);
        }
        return best;
    }

    public int loose() {
        int best = N;
        for (int out = 0; out < 128; out++) {
            boolean single = true;
            for (int a = 0; a < N; a++) {
                for (int b = 0; b < N; b++) {
                    boolean others = a != b && (out >> a & 1) == 0 && (out >> b & 1) == 0;
                    single &= !others || pathsBetween(a, b, out | 1 << a) <= 1;
                }
            }
            if (single) {
                best = Math.min(best, Integer.bitCount(out));
            }
        }
        return best;
    }

    private int pathsBetween(int a, int b, int barred) {
        if (a == b) {
            return 1;
        }
        int sum = 0;
        for (int v = 0; v < N; v++) {
            if (w[a][v] > 0 && (barred >> v & 1) == 0) {
                sum += pathsBetween(v, b, barred | 1 << v);
            }
        }
        return sum;
    }
}
