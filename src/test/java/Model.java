import java.util.ArrayList;
import java.util.List;

/**
 * The document's terms, found without leaving anything out of the graph: for each vertex, which vertices and
 * which edges lie on every path to it. Written apart from DominatorCert so that both do not err alike.
 */
final class Model {
    final int n;
    final List<int[]> edges = new ArrayList<>();

    private final boolean[] reached;
    private final int[] verticesOn;
    private final long[] edgesOn;

    Model(int n) {
        this.n = n;
        reached = new boolean[n];
        verticesOn = new int[n];
        edgesOn = new long[n];
    }

    /** Walks every path that meets no vertex twice; other paths hold more, so they change nothing. */
    void walkPaths() {
        clear();
        walk(0, 1, 0L);
    }

    private void walk(int v, int vertices, long used) {
        reached[v] = true;
        verticesOn[v] &= vertices;
        edgesOn[v] &= used;
        for (int i = 0; i < edges.size(); i++) {
            int next = edges.get(i)[1];
            if (edges.get(i)[0] == v && (vertices >> next & 1) == 0) walk(next, vertices | 1 << next, used | 1L << i);
        }
    }

    /** What lies on every path to v lies, over each edge into v, on every path to its start, or is v or that edge. */
    void solveEquations() {
        clear();
        reached[0] = true;
        verticesOn[0] = 1;
        edgesOn[0] = 0L;
        boolean changed = true;
        while (changed) {
            changed = false;
            for (int i = 0; i < edges.size(); i++) changed |= flow(i);
        }
    }

    private boolean flow(int i) {
        int u = edges.get(i)[0];
        int v = edges.get(i)[1];
        if (!reached[u]) return false;
        int vertices = verticesOn[v] & (verticesOn[u] | 1 << v);
        long used = edgesOn[v] & (edgesOn[u] | 1L << i);
        boolean changed = !reached[v] || vertices != verticesOn[v] || used != edgesOn[v];
        reached[v] = true;
        verticesOn[v] = vertices;
        edgesOn[v] = used;
        return changed;
    }

    private void clear() {
        for (int v = 0; v < n; v++) {
            reached[v] = false;
            verticesOn[v] = -1;
            edgesOn[v] = -1L;
        }
    }

    private boolean good(int v) {
        return 0 <= v && v < n;
    }

    private boolean listed(int i) {
        return 0 <= i && i < edges.size();
    }

    private boolean over(int u, int v) {
        return reached[v] && (verticesOn[v] >> u & 1) == 1;
    }

    private int rank(int v) {
        return reached[v] ? Integer.bitCount(verticesOn[v]) : 0;
    }

    int link(int u, int v) {
        if (!good(u) || !good(v)) return -1;
        if (edges.size() == 60) return -2;
        edges.add(new int[] {u, v});
        return edges.size();
    }

    int cut(int i) {
        if (!listed(i)) return -1;
        edges.remove(i);
        return edges.size();
    }

    int reachable(int v) {
        if (!good(v)) return -1;
        return reached[v] ? 1 : 0;
    }

    int reachableCount() {
        int count = 0;
        for (boolean r : reached) count += r ? 1 : 0;
        return count;
    }

    int immediate(int v) {
        if (!good(v)) return -1;
        if (!reached[v]) return -2;
        if (v == 0) return -3;
        for (int d = 0; d < n; d++) {
            if (d != v && over(d, v) && allOthersOver(d, v)) return d;
        }
        return -99;
    }

    /** Whether all dominators of v other than v dominate d. */
    private boolean allOthersOver(int d, int v) {
        for (int u = 0; u < n; u++) {
            if (u != v && over(u, v) && !over(u, d)) return false;
        }
        return true;
    }

    int dominates(int u, int v) {
        if (!good(u) || !good(v)) return -1;
        if (!reached[v]) return -2;
        return over(u, v) ? 1 : 0;
    }

    int common(int v) {
        if (!good(v)) return -1;
        if (!reached[v]) return -2;
        return rank(v);
    }

    int nearest(int u, int v) {
        if (!good(u) || !good(v)) return -1;
        if (!reached[u] || !reached[v]) return -2;
        int best = 0;
        for (int d = 0; d < n; d++) {
            if (over(d, u) && over(d, v) && rank(d) > rank(best)) best = d;
        }
        return best;
    }

    int below(int u) {
        if (!good(u)) return -1;
        if (!reached[u]) return -2;
        int count = 0;
        for (int v = 0; v < n; v++) count += over(u, v) ? 1 : 0;
        return count;
    }

    int children(int u) {
        if (!good(u)) return -1;
        if (!reached[u]) return -2;
        int count = 0;
        for (int v = 0; v < n; v++) count += immediate(v) == u ? 1 : 0;
        return count;
    }

    int border(int u, int v) {
        if (!good(u) || !good(v)) return -1;
        if (!reached[u] || !reached[v]) return -2;
        boolean entered = false;
        for (int[] e : edges) entered |= e[1] == v && over(u, e[0]);
        return entered && (!over(u, v) || u == v) ? 1 : 0;
    }

    int needs(int i, int v) {
        if (!listed(i)) return -1;
        if (!good(v)) return -2;
        if (!reached[v]) return -3;
        return (edgesOn[v] >> i & 1) == 1 ? 1 : 0;
    }

    int bridges() {
        long needed = 0L;
        for (int v = 0; v < n; v++) needed |= reached[v] ? edgesOn[v] : 0L;
        return Long.bitCount(needed);
    }

    int height() {
        int greatest = 0;
        for (int v = 0; v < n; v++) greatest = Math.max(greatest, rank(v));
        return greatest;
    }
}
