/** The graphs that several tests ask about. */
final class Graphs {
    static final int MOST_EDGES = 60;

    private Graphs() { }

    static DominatorCert of(int n, int... ends) {
        DominatorCert x = new DominatorCert(n);
        for (int k = 0; k + 1 < ends.length; k += 2) x.link(ends[k], ends[k + 1]);
        return x;
    }

    /** 0 -> 1, then 1 -> {2, 3} -> 4 -> 5 -> 1; 6 leads in, but nothing leads to it; 7 stands alone. */
    static DominatorCert diamond() {
        return of(8, 0, 1, 1, 2, 1, 3, 2, 4, 3, 4, 4, 5, 5, 1, 6, 4);
    }

    /** 0 -> 1 -> 2; 3 leads in, 4 and 5 lead to each other, 6 to itself, 7 stands alone: 3 to 7 are not reachable. */
    static DominatorCert lost() {
        return of(8, 0, 1, 1, 2, 3, 1, 4, 5, 5, 4, 6, 6);
    }

    /** A path over all n vertices, its edges put in from the far end on. */
    static DominatorCert path(int n) {
        DominatorCert x = new DominatorCert(n);
        for (int v = n - 1; v > 0; v--) x.link(v - 1, v);
        return x;
    }

    /** An edge from the root to every other vertex; the one to v stands at position v - 1. */
    static DominatorCert star(int n) {
        DominatorCert x = new DominatorCert(n);
        for (int v = 1; v < n; v++) x.link(0, v);
        return x;
    }

    /** The first edges of the row 0 -> 0, 0 -> 1, .., 1 -> 0, ..; from 8 vertices on, 60 of them are all different. */
    static DominatorCert filled(int n, int edges) {
        DominatorCert x = new DominatorCert(n);
        for (int k = 0; k < edges; k++) x.link(filledFrom(n, k), filledTo(n, k));
        return x;
    }

    static int filledFrom(int n, int k) {
        return k / n % n;
    }

    static int filledTo(int n, int k) {
        return k % n;
    }

    static DominatorCert sixtyLikeEdges() {
        DominatorCert x = new DominatorCert(3);
        for (int k = 0; k < MOST_EDGES; k++) x.link(0, 1);
        return x;
    }

    /** Each of the nine edges that three vertices can have is there if its bit is set. */
    static DominatorCert ofThree(int set) {
        DominatorCert x = new DominatorCert(3);
        for (int e = 0; e < 9; e++) {
            if ((set >> e & 1) == 1) x.link(e / 3, e % 3);
        }
        return x;
    }

    /**
     * The edge at position i of a list of the given length, as 100 * start + end, or -1 if none is found. The
     * other edges are cut and the root is led to every vertex, so each vertex but the root dominates itself alone
     * and its border shows where the edge leads.
     */
    static int readEdge(DominatorCert x, int length, int i) {
        int n = x.vertices();
        for (int k = length - 1; k > i; k--) x.cut(k);
        for (int k = 0; k < i; k++) x.cut(0);
        for (int v = 1; v < n; v++) x.link(0, v);
        for (int u = 1; u < n; u++) {
            for (int v = 0; v < n; v++) {
                if (x.border(u, v) == 1) return 100 * u + v;
            }
        }
        for (int v = 1; v < n; v++) {
            if (x.needs(v, v) == 0) return v;
        }
        return x.border(0, 0) == 1 ? 0 : -1;
    }
}
