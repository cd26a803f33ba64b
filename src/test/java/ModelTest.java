/** DominatorCert against Model: all small graphs, and long runs of calls drawn from a fixed row of numbers. */
public final class ModelTest {
    private static final int CALLS = 512;
    private static final int RUNS = 1500;
    private static final int QUESTIONS = 14;

    private static long row = 20261115L;

    public static void main(String[] args) {
        allGraphsOfThree();
        allGraphsOfFour();
        allListsOf(2, 5);
        allListsOf(3, 4);
        for (int run = 0; run < RUNS; run++) longRun(run);
        Due.end();
    }

    private static int draw(int bound) {
        row = row * 6364136223846793005L + 1442695040888963407L;
        return (int) ((row >>> 33) % bound);
    }

    /** Each of the nine edges is there or not, edges from a vertex to itself among them. */
    private static void allGraphsOfThree() {
        for (int set = 0; set < 1 << 9; set++) {
            Model m = new Model(3);
            for (int e = 0; e < 9; e++) {
                if ((set >> e & 1) == 1) m.link(e / 3, e % 3);
            }
            compareWhole("3 vertices, edges " + set, m);
        }
    }

    /** Each of the twelve edges between two vertices is there or not. */
    private static void allGraphsOfFour() {
        for (int set = 0; set < 1 << 12; set++) {
            Model m = new Model(4);
            for (int e = 0; e < 12; e++) {
                int u = e / 3;
                if ((set >> e & 1) == 1) m.link(u, (u + 1 + e % 3) % 4);
            }
            compareWhole("4 vertices, edges " + set, m);
        }
    }

    /** Every list of at most so many edges: in every order, and with any of them several times. */
    private static void allListsOf(int n, int most) {
        int lists = 1;
        for (int length = 0; length <= most; length++) {
            for (int list = 0; list < lists; list++) {
                Model m = new Model(n);
                int rest = list;
                for (int k = 0; k < length; k++) {
                    int edge = rest % (n * n);
                    m.link(edge / n, edge % n);
                    rest /= n * n;
                }
                compareWhole(n + " vertices, list " + list + " of length " + length, m);
            }
            lists *= n * n;
        }
    }

    private static void compareWhole(String graph, Model m) {
        m.walkPaths();
        int most = Math.max(m.n, m.edges.size());
        for (int question = 0; question < QUESTIONS; question++) {
            // A new object for each question keeps within the 512 calls.
            DominatorCert x = new DominatorCert(m.n);
            for (int[] e : m.edges) x.link(e[0], e[1]);
            for (int a = -1; a <= most; a++) {
                for (int b = -1; b <= m.n; b++) ask(graph, x, m, question, a, b);
            }
        }
    }

    private static void longRun(int run) {
        int n = 2 + run % 23;
        DominatorCert x = new DominatorCert(n);
        Model m = new Model(n);
        m.solveEquations();
        // Few edges give deep rows of dominators, many give flat ones and reach the bound of the list.
        int aim = 1 + draw(70);
        for (int call = 0; call < CALLS; call++) {
            String where = "run " + run + ", call " + call;
            int kind = draw(4);
            if (kind == 0 || call < aim) {
                change(where, x, m, aim);
                m.solveEquations();
            } else {
                ask(where, x, m, draw(QUESTIONS), number(Math.max(n, m.edges.size())), number(n));
            }
        }
    }

    private static void change(String where, DominatorCert x, Model m, int aim) {
        if (draw(aim + m.edges.size()) < aim) {
            int u = number(m.n);
            // Steps to a near vertex build long rows; the others cross them.
            int v = draw(3) > 0 ? u + 1 : number(m.n);
            Due.answer(where + ": link(" + u + ", " + v + ")", x.link(u, v), m.link(u, v));
        } else {
            int i = number(m.edges.size());
            Due.answer(where + ": cut(" + i + ")", x.cut(i), m.cut(i));
        }
    }

    /** Mostly 0 .. bound-1, at times one beside it. */
    private static int number(int bound) {
        if (draw(40) == 0) return -1;
        return draw(40) == 0 ? bound : draw(Math.max(1, bound));
    }

    private static void ask(String where, DominatorCert x, Model m, int question, int a, int b) {
        String of = "(" + a + ", " + b + ")";
        int u = a > m.n ? a % m.n : a;
        String from = "(" + u + ", " + b + ")";
        String one = "(" + b + ")";
        switch (question) {
            case 0 -> Due.answer(where + ": vertices()", x.vertices(), m.n);
            case 1 -> Due.answer(where + ": edges()", x.edges(), m.edges.size());
            case 2 -> Due.answer(where + ": reachable" + one, x.reachable(b), m.reachable(b));
            case 3 -> Due.answer(where + ": reachableCount()", x.reachableCount(), m.reachableCount());
            case 4 -> Due.answer(where + ": immediate" + one, x.immediate(b), m.immediate(b));
            case 5 -> Due.answer(where + ": dominates" + from, x.dominates(u, b), m.dominates(u, b));
            case 6 -> Due.answer(where + ": common" + one, x.common(b), m.common(b));
            case 7 -> Due.answer(where + ": nearest" + from, x.nearest(u, b), m.nearest(u, b));
            case 8 -> Due.answer(where + ": below" + one, x.below(b), m.below(b));
            case 9 -> Due.answer(where + ": children" + one, x.children(b), m.children(b));
            case 10 -> Due.answer(where + ": border" + from, x.border(u, b), m.border(u, b));
            case 11 -> Due.answer(where + ": bridges()", x.bridges(), m.bridges());
            case 12 -> Due.answer(where + ": needs" + of, x.needs(a, b), m.needs(a, b));
            default -> Due.answer(where + ": height()", x.height(), m.height());
        }
    }
}
