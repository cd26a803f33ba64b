/** Each promise by itself: ordinary inputs, the edges that the document names, and wrong inputs. */
public final class PromisesTest {
    private static final int LOWEST = Integer.MIN_VALUE;
    private static final int HIGHEST = Integer.MAX_VALUE;

    public static void main(String[] args) {
        newObject();
        vertices();
        link();
        cut();
        edges();
        reachable();
        reachableCount();
        immediate();
        dominates();
        common();
        nearest();
        below();
        children();
        border();
        needs();
        bridges();
        height();
        Due.end();
    }

    private static void newObject() {
        int[] given = {LOWEST, -1, 0, 1, 2, 3, 23, 24, 25, 1000, HIGHEST};
        int[] kept = {2, 2, 2, 2, 2, 3, 23, 24, 24, 24, 24};
        for (int k = 0; k < given.length; k++) {
            DominatorCert x = new DominatorCert(given[k]);
            String call = "1: new " + given[k] + ": ";
            Due.answer(call + "vertices()", x.vertices(), kept[k]);
            Due.answer(call + "edges()", x.edges(), 0);
            Due.answer(call + "cut(0)", x.cut(0), -1);
            Due.answer(call + "reachableCount()", x.reachableCount(), 1);
            Due.answer(call + "reachable(0)", x.reachable(0), 1);
            Due.answer(call + "reachable(last)", x.reachable(kept[k] - 1), 0);
            Due.answer(call + "reachable(n)", x.reachable(kept[k]), -1);
        }
        DominatorCert one = Graphs.of(4, 0, 1);
        DominatorCert other = new DominatorCert(4);
        Due.answer("1: edges of another object", other.edges(), 0);
        Due.answer("1: edges of the first object", one.edges(), 1);
    }

    private static void vertices() {
        DominatorCert x = Graphs.of(9, 0, 1, 1, 8);
        Due.answer("2: vertices() with edges", x.vertices(), 9);
        x.cut(0);
        x.link(9, 0);
        Due.answer("2: vertices() after changes", x.vertices(), 9);
    }

    private static void link() {
        DominatorCert x = new DominatorCert(5);
        Due.answer("3: link(0, 4)", x.link(0, 4), 1);
        Due.answer("3: link(0, 4) again", x.link(0, 4), 2);
        Due.answer("3: link(4, 4)", x.link(4, 4), 3);
        int[] bad = {-1, 5, 24, 32, LOWEST, HIGHEST};
        for (int b : bad) {
            Due.answer("3: link(" + b + ", 0)", x.link(b, 0), -1);
            Due.answer("3: link(0, " + b + ")", x.link(0, b), -1);
            Due.answer("3: link(" + b + ", " + b + ")", x.link(b, b), -1);
        }
        Due.answer("3: edges() after refusals", x.edges(), 3);

        DominatorCert y = new DominatorCert(3);
        for (int k = 1; k <= 60; k++) Due.answer("3: link number " + k, y.link(0, 1), k);
        Due.answer("3: link(1, 2) when full", y.link(1, 2), -2);
        Due.answer("3: link(3, 0) when full", y.link(3, 0), -1);
        Due.answer("3: link(0, -1) when full", y.link(0, -1), -1);
        Due.answer("3: reachable(2) after the refusal", y.reachable(2), 0);
        Due.answer("3: edges() when full", y.edges(), 60);
        y.cut(59);
        Due.answer("3: link(1, 2) with room again", y.link(1, 2), 60);
        Due.answer("3: the edge leads from 1 to 2", y.reachable(2), 1);
        Due.answer("3: the edge stands at the end", y.needs(59, 2), 1);
    }

    private static void cut() {
        DominatorCert x = Graphs.of(5, 0, 1, 1, 2, 2, 3, 3, 4);
        int[] bad = {-1, 4, 60, LOWEST, HIGHEST};
        for (int b : bad) Due.answer("4: cut(" + b + ")", x.cut(b), -1);
        Due.answer("4: edges() after refusals", x.edges(), 4);
        Due.answer("4: reachableCount() after refusals", x.reachableCount(), 5);
        Due.answer("4: cut(2)", x.cut(2), 3);
        Due.answer("4: reachableCount()", x.reachableCount(), 3);
        x.link(0, 3);
        Due.answer("4: the later edge moved down", x.needs(2, 4), 1);
        Due.answer("4: the new edge is behind it", x.needs(3, 4), 1);
        Due.answer("4: edges before it stayed", x.needs(1, 2), 1);
        Due.answer("4: cut(3), the last", x.cut(3), 3);
        Due.answer("4: cut(3) once more", x.cut(3), -1);
        Due.answer("4: cut(0)", x.cut(0), 2);
        Due.answer("4: cut(0) again", x.cut(0), 1);
        Due.answer("4: cut(0) a third time", x.cut(0), 0);
        Due.answer("4: cut(0) of nothing", x.cut(0), -1);

        DominatorCert y = Graphs.sixtyLikeEdges();
        y.cut(59);
        y.link(1, 2);
        Due.answer("4: cut(60) when full", y.cut(60), -1);
        Due.answer("4: cut(0) when full", y.cut(0), 59);
        Due.answer("4: the last edge moved down", y.needs(58, 2), 1);
        Due.answer("4: position 59 is gone", y.needs(59, 2), -1);

        DominatorCert twins = Graphs.of(2, 0, 1, 0, 1);
        twins.cut(0);
        Due.answer("4: only one of two like edges goes", twins.reachable(1), 1);
    }

    private static void edges() {
        DominatorCert x = Graphs.of(3, 0, 1, 0, 1, 2, 2);
        Due.answer("5: edges()", x.edges(), 3);
        x.cut(1);
        Due.answer("5: edges() after a cut", x.edges(), 2);
        x.link(3, 3);
        x.cut(2);
        Due.answer("5: edges() after refusals", x.edges(), 2);
        Due.answer("5: edges() when full", Graphs.sixtyLikeEdges().edges(), 60);
    }

    private static void reachable() {
        DominatorCert x = Graphs.diamond();
        int[] due = {1, 1, 1, 1, 1, 1, 0, 0};
        for (int v = 0; v < 8; v++) Due.answer("6: reachable(" + v + ")", x.reachable(v), due[v]);
        int[] bad = {-1, 8, 24, 32, LOWEST, HIGHEST};
        for (int b : bad) Due.answer("6: reachable(" + b + ")", x.reachable(b), -1);
        x.cut(0);
        Due.answer("6: a loop that the root does not lead to", x.reachable(1), 0);
        Due.answer("6: the root always is", x.reachable(0), 1);
        Due.answer("6: the far end of the longest path", Graphs.path(24).reachable(23), 1);
        Due.answer("6: edges are not walked backwards", Graphs.of(2, 1, 0).reachable(1), 0);
    }

    private static void reachableCount() {
        DominatorCert x = Graphs.diamond();
        Due.answer("7: reachableCount()", x.reachableCount(), 6);
        x.link(5, 6);
        Due.answer("7: reachableCount() with 6", x.reachableCount(), 7);
        x.cut(0);
        Due.answer("7: reachableCount() of the root alone", x.reachableCount(), 1);
        Due.answer("7: reachableCount() of the longest path", Graphs.path(24).reachableCount(), 24);
    }

    private static void immediate() {
        DominatorCert x = Graphs.diamond();
        int[] due = {-3, 0, 1, 1, 1, 4, -2, -2};
        for (int v = 0; v < 8; v++) Due.answer("8: immediate(" + v + ")", x.immediate(v), due[v]);
        Due.answer("8: immediate(-1)", x.immediate(-1), -1);
        Due.answer("8: immediate(8)", x.immediate(8), -1);
        Due.answer("8: immediate(lowest)", x.immediate(LOWEST), -1);
        Due.answer("8: immediate(highest)", x.immediate(HIGHEST), -1);
        x.link(0, 4);
        Due.answer("8: immediate(4) with a way past 1", x.immediate(4), 0);
        x.link(5, 0);
        Due.answer("8: immediate(0) with an edge into the root", x.immediate(0), -3);

        DominatorCert path = Graphs.path(24);
        for (int v = 1; v < 24; v++) Due.answer("8: immediate on a path", path.immediate(v), v - 1);
        DominatorCert down = Graphs.of(4, 0, 3, 3, 2, 2, 1);
        Due.answer("8: immediate(1) under greater numbers", down.immediate(1), 2);
        Due.answer("8: immediate(2) under greater numbers", down.immediate(2), 3);
    }

    private static void dominates() {
        DominatorCert x = Graphs.diamond();
        Due.answer("9: dominates(0, 5)", x.dominates(0, 5), 1);
        Due.answer("9: dominates(1, 5)", x.dominates(1, 5), 1);
        Due.answer("9: dominates(2, 4)", x.dominates(2, 4), 0);
        Due.answer("9: dominates(5, 1)", x.dominates(5, 1), 0);
        Due.answer("9: dominates(5, 5)", x.dominates(5, 5), 1);
        Due.answer("9: dominates(0, 0)", x.dominates(0, 0), 1);
        Due.answer("9: dominates(1, 0)", x.dominates(1, 0), 0);
        Due.answer("9: u not reachable", x.dominates(6, 4), 0);
        Due.answer("9: u not reachable, v the root", x.dominates(7, 0), 0);
        Due.answer("9: v not reachable", x.dominates(0, 6), -2);
        Due.answer("9: neither reachable", x.dominates(6, 7), -2);
        Due.answer("9: u = v not reachable", x.dominates(6, 6), -2);
        Due.answer("9: u not good, v not reachable", x.dominates(8, 6), -1);
        Due.answer("9: u not good", x.dominates(-1, 0), -1);
        Due.answer("9: v not good", x.dominates(0, 8), -1);
        Due.answer("9: far too low", x.dominates(LOWEST, LOWEST), -1);
        Due.answer("9: far too high", x.dominates(HIGHEST, HIGHEST), -1);
    }

    private static void common() {
        DominatorCert x = Graphs.diamond();
        int[] due = {1, 2, 3, 3, 3, 4, -2, -2};
        for (int v = 0; v < 8; v++) Due.answer("10: common(" + v + ")", x.common(v), due[v]);
        Due.answer("10: common(-1)", x.common(-1), -1);
        Due.answer("10: common(8)", x.common(8), -1);
        Due.answer("10: common(highest)", x.common(HIGHEST), -1);
        Due.answer("10: common(23) on the longest path", Graphs.path(24).common(23), 24);
    }

    private static void nearest() {
        DominatorCert x = Graphs.diamond();
        Due.answer("11: nearest(2, 3)", x.nearest(2, 3), 1);
        Due.answer("11: nearest(5, 2)", x.nearest(5, 2), 1);
        Due.answer("11: nearest(4, 5)", x.nearest(4, 5), 4);
        Due.answer("11: nearest(5, 4)", x.nearest(5, 4), 4);
        Due.answer("11: nearest(5, 5)", x.nearest(5, 5), 5);
        Due.answer("11: nearest(0, 5)", x.nearest(0, 5), 0);
        Due.answer("11: nearest(0, 0)", x.nearest(0, 0), 0);
        Due.answer("11: u not reachable", x.nearest(6, 0), -2);
        Due.answer("11: v not reachable", x.nearest(0, 6), -2);
        Due.answer("11: u = v not reachable", x.nearest(7, 7), -2);
        Due.answer("11: u not good, v not reachable", x.nearest(-1, 6), -1);
        Due.answer("11: u not reachable, v not good", x.nearest(6, 8), -1);
        Due.answer("11: far too high", x.nearest(HIGHEST, 0), -1);
        DominatorCert down = Graphs.of(6, 0, 5, 5, 4, 4, 1, 4, 2);
        Due.answer("11: nearest(1, 2) under greater numbers", down.nearest(1, 2), 4);
    }

    private static void below() {
        DominatorCert x = Graphs.diamond();
        int[] due = {6, 5, 1, 1, 2, 1, -2, -2};
        for (int u = 0; u < 8; u++) Due.answer("12: below(" + u + ")", x.below(u), due[u]);
        Due.answer("12: below(-1)", x.below(-1), -1);
        Due.answer("12: below(8)", x.below(8), -1);
        Due.answer("12: below(lowest)", x.below(LOWEST), -1);
        Due.answer("12: below(0) of the root alone", new DominatorCert(5).below(0), 1);
        Due.answer("12: below(0) of the longest path", Graphs.path(24).below(0), 24);
    }

    private static void children() {
        DominatorCert x = Graphs.diamond();
        int[] due = {1, 3, 0, 0, 1, 0, -2, -2};
        for (int u = 0; u < 8; u++) Due.answer("13: children(" + u + ")", x.children(u), due[u]);
        Due.answer("13: children(-1)", x.children(-1), -1);
        Due.answer("13: children(8)", x.children(8), -1);
        Due.answer("13: children(highest)", x.children(HIGHEST), -1);
        Due.answer("13: the root is nobody's child", Graphs.of(2, 0, 0, 0, 1, 1, 0).children(0), 1);
        Due.answer("13: children(0) of the root alone", new DominatorCert(2).children(0), 0);
        Due.answer("13: children(0) of a star", Graphs.star(24).children(0), 23);
    }

    private static void border() {
        DominatorCert x = Graphs.diamond();
        Due.answer("14: border(2, 4)", x.border(2, 4), 1);
        Due.answer("14: border(4, 1), the edge leaves from 5", x.border(4, 1), 1);
        Due.answer("14: border(1, 1), a loop back to u", x.border(1, 1), 1);
        Due.answer("14: border(1, 2), u dominates v", x.border(1, 2), 0);
        Due.answer("14: border(2, 3), no edge", x.border(2, 3), 0);
        Due.answer("14: border(2, 2), no edge back", x.border(2, 2), 0);
        Due.answer("14: border(5, 4), edge the other way", x.border(5, 4), 0);
        Due.answer("14: border(0, 0), no edge into the root", x.border(0, 0), 0);
        Due.answer("14: u not reachable", x.border(6, 4), -2);
        Due.answer("14: v not reachable", x.border(4, 6), -2);
        Due.answer("14: u not good, v not reachable", x.border(8, 6), -1);
        Due.answer("14: u not reachable, v not good", x.border(6, -1), -1);
        Due.answer("14: far too low", x.border(LOWEST, 0), -1);
        x.link(2, 2);
        Due.answer("14: border(2, 2), an edge from 2 to itself", x.border(2, 2), 1);
        Due.answer("14: border(1, 2), u still dominates v", x.border(1, 2), 0);

        DominatorCert y = Graphs.of(4, 3, 0, 0, 1);
        Due.answer("14: an edge from an unreachable vertex", y.border(0, 0), 0);
        y.link(1, 3);
        Due.answer("14: the same edge, now from a reachable one", y.border(0, 0), 1);
    }

    private static void needs() {
        DominatorCert x = Graphs.diamond();
        int[] dueFor5 = {1, 0, 0, 0, 0, 1, 0, 0};
        for (int i = 0; i < 8; i++) Due.answer("15: needs(" + i + ", 5)", x.needs(i, 5), dueFor5[i]);
        Due.answer("15: needs(1, 2)", x.needs(1, 2), 1);
        Due.answer("15: needs(0, 0), nothing is needed for the root", x.needs(0, 0), 0);
        Due.answer("15: i = edges()", x.needs(8, 1), -1);
        Due.answer("15: i = -1", x.needs(-1, 1), -1);
        Due.answer("15: i far too low", x.needs(LOWEST, 1), -1);
        Due.answer("15: i far too high", x.needs(HIGHEST, 1), -1);
        Due.answer("15: i wrong, v not good", x.needs(8, 8), -1);
        Due.answer("15: i wrong, v not reachable", x.needs(8, 7), -1);
        Due.answer("15: v not good", x.needs(0, 8), -2);
        Due.answer("15: v = -1", x.needs(7, -1), -2);
        Due.answer("15: v far too high", x.needs(0, HIGHEST), -2);
        Due.answer("15: v not reachable", x.needs(0, 6), -3);
        Due.answer("15: no edges at all", new DominatorCert(2).needs(0, 0), -1);

        DominatorCert twins = Graphs.of(3, 0, 1, 1, 2, 0, 1);
        Due.answer("15: one of two like edges", twins.needs(0, 2), 0);
        Due.answer("15: the other of them", twins.needs(2, 2), 0);
        Due.answer("15: the only edge into 2", twins.needs(1, 2), 1);
    }

    private static void bridges() {
        DominatorCert x = Graphs.diamond();
        Due.answer("16: bridges()", x.bridges(), 4);
        x.link(4, 5);
        Due.answer("16: bridges() with 4 -> 5 twice", x.bridges(), 3);
        x.link(6, 7);
        x.link(2, 2);
        Due.answer("16: edges among unreachable ones and to itself", x.bridges(), 3);
        Due.answer("16: bridges() of nothing", new DominatorCert(4).bridges(), 0);
        Due.answer("16: bridges() of the longest path", Graphs.path(24).bridges(), 23);
        Due.answer("16: bridges() of sixty like edges", Graphs.sixtyLikeEdges().bridges(), 0);
    }

    private static void height() {
        DominatorCert x = Graphs.diamond();
        Due.answer("17: height()", x.height(), 4);
        x.link(6, 7);
        Due.answer("17: unreachable ones do not count", x.height(), 4);
        x.link(0, 4);
        Due.answer("17: height() with 0 -> 4", x.height(), 3);
        Due.answer("17: height() of the root alone", new DominatorCert(9).height(), 1);
        Due.answer("17: height() of the longest path", Graphs.path(24).height(), 24);
    }
}
