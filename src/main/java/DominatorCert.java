/**
 * Dominators in a flow graph that grows and shrinks edge by edge.
 *
 * Only the list of edges is kept. Every question is worked out anew from it,
 * so nothing can go stale when an edge comes or goes. A set of vertices is an
 * int with bit v set for vertex v: there are never more than 24.
 */
public final class DominatorCert {
    private static final int LEAST_VERTICES = 2;
    private static final int MOST_VERTICES = 24;
    private static final int MOST_EDGES = 60;
    private static final int ROOT = 0;
    private static final int NONE = -1;

    private final int[] from = new int[MOST_EDGES];
    private final int[] to = new int[MOST_EDGES];
    private final int vertexCount;
    private int edgeCount;

    public DominatorCert(int vertices) {
        int wanted = vertices;
        if (wanted < LEAST_VERTICES) wanted = LEAST_VERTICES;
        if (wanted > MOST_VERTICES) wanted = MOST_VERTICES;
        vertexCount = wanted;
        edgeCount = 0;
    }

    public int vertices() {
        return vertexCount;
    }

    public int link(int u, int v) {
        if (!isGood(u) || !isGood(v)) return -1;
        if (edgeCount >= MOST_EDGES) return -2;
        from[edgeCount] = u;
        to[edgeCount] = v;
        edgeCount++;
        return edgeCount;
    }

    public int cut(int i) {
        if (!isPosition(i)) return -1;
        for (int k = i + 1; k < edgeCount; k++) {
            from[k - 1] = from[k];
            to[k - 1] = to[k];
        }
        edgeCount--;
        return edgeCount;
    }

    public int edges() {
        return edgeCount;
    }

    public int reachable(int v) {
        if (!isGood(v)) return -1;
        return isReached(v) ? 1 : 0;
    }

    public int reachableCount() {
        int reached = reachedWithout(NONE, NONE);
        return sizeOf(reached);
    }

    public int immediate(int v) {
        if (!isGood(v)) return -1;
        if (!isReached(v)) return -2;
        if (v == ROOT) return -3;
        int others = dominatorsOf(v) & ~(1 << v);
        return lastOf(others);
    }

    public int dominates(int u, int v) {
        if (!isGood(u) || !isGood(v)) return -1;
        if (!isReached(v)) return -2;
        int dominated = dominatedBy(u);
        return contains(dominated, v) ? 1 : 0;
    }

    public int common(int v) {
        if (!isGood(v)) return -1;
        if (!isReached(v)) return -2;
        return depthOf(v);
    }

    public int nearest(int u, int v) {
        if (!isGood(u) || !isGood(v)) return -1;
        if (!isReached(u) || !isReached(v)) return -2;
        int both = dominatorsOf(u) & dominatorsOf(v);
        return lastOf(both);
    }

    public int below(int u) {
        if (!isGood(u)) return -1;
        if (!isReached(u)) return -2;
        int dominated = dominatedBy(u);
        return sizeOf(dominated);
    }

    public int children(int u) {
        if (!isGood(u)) return -1;
        if (!isReached(u)) return -2;
        int dominated = dominatedBy(u);
        // Dominators lie in a row, so u is the immediate one of just those
        // vertices it dominates that have one dominator more than u has.
        int childDepth = depthOf(u) + 1;
        int total = 0;
        for (int v = 0; v < vertexCount; v++) {
            if (contains(dominated, v) && depthOf(v) == childDepth) total++;
        }
        return total;
    }

    public int border(int u, int v) {
        if (!isGood(u) || !isGood(v)) return -1;
        if (!isReached(u) || !isReached(v)) return -2;
        int dominated = dominatedBy(u);
        if (u != v && contains(dominated, v)) return 0;
        for (int i = 0; i < edgeCount; i++) {
            if (to[i] == v && contains(dominated, from[i])) return 1;
        }
        return 0;
    }

    public int needs(int i, int v) {
        if (!isPosition(i)) return -1;
        if (!isGood(v)) return -2;
        if (!isReached(v)) return -3;
        int reached = reachedWithout(NONE, i);
        return contains(reached, v) ? 0 : 1;
    }

    public int bridges() {
        int reached = reachedWithout(NONE, NONE);
        int total = 0;
        for (int i = 0; i < edgeCount; i++) {
            if (reachedWithout(NONE, i) != reached) total++;
        }
        return total;
    }

    public int height() {
        int greatest = 0;
        for (int v = 0; v < vertexCount; v++) {
            int depth = depthOf(v);
            if (depth > greatest) greatest = depth;
        }
        return greatest;
    }

    private boolean isGood(int v) {
        return v >= 0 && v < vertexCount;
    }

    private boolean isPosition(int i) {
        return i >= 0 && i < edgeCount;
    }

    private boolean isReached(int v) {
        int reached = reachedWithout(NONE, NONE);
        return contains(reached, v);
    }

    /** The vertices that paths lead to which keep off one vertex and one edge (NONE: off nothing). */
    private int reachedWithout(int vertex, int edge) {
        int reached = vertex == ROOT ? 0 : 1 << ROOT;
        // Every round but the last adds a vertex, so as many rounds as there
        // are vertices always suffice.
        for (int round = 0; round < vertexCount; round++) {
            int before = reached;
            for (int i = 0; i < edgeCount; i++) {
                boolean open = i != edge && to[i] != vertex;
                boolean starts = (reached >> from[i] & 1) == 1;
                if (open && starts) reached |= 1 << to[i];
            }
            if (reached == before) break;
        }
        return reached;
    }

    /** Empty if u is not reachable: keeping off u then loses nothing. */
    private int dominatedBy(int u) {
        return reachedWithout(NONE, NONE) & ~reachedWithout(u, NONE);
    }

    /** Empty if v is not reachable. */
    private int dominatorsOf(int v) {
        int reached = reachedWithout(NONE, NONE);
        int dominators = 0;
        for (int u = 0; u < vertexCount; u++) {
            int dominated = reached & ~reachedWithout(u, NONE);
            if (contains(dominated, v)) dominators |= 1 << u;
        }
        return dominators;
    }

    private int depthOf(int v) {
        int dominators = dominatorsOf(v);
        return sizeOf(dominators);
    }

    /** The vertex of the set that has the most dominators. */
    private int lastOf(int set) {
        int last = ROOT;
        int greatest = 0;
        for (int v = 0; v < vertexCount; v++) {
            int depth = contains(set, v) ? depthOf(v) : 0;
            if (depth > greatest) {
                greatest = depth;
                last = v;
            }
        }
        return last;
    }

    private static boolean contains(int set, int v) {
        return (set >> v & 1) == 1;
    }

    private static int sizeOf(int set) {
        int size = 0;
        for (int v = 0; v < MOST_VERTICES; v++) {
            if (contains(set, v)) size++;
        }
        return size;
    }
}
