import java.util.function.IntFunction;

/** Promises 1 to 17: a test of its own for each sentence, or part of one, that names a boundary case. */
public final class BoundaryTest {
    private static final int LEAST = 2;
    private static final int MOST = 24;
    private static final int LOWEST = Integer.MIN_VALUE;
    private static final int HIGHEST = Integer.MAX_VALUE;

    public static void main(String[] args) {
        state();
        reachability();
        dominators();
        bordersAndBridges();
        Due.end();
    }

    private static void state() {
        Due.test("1: below 2 becomes 2", BoundaryTest::belowTwoBecomesTwo);
        Due.test("1: above 24 becomes 24", BoundaryTest::aboveTwentyFourBecomesTwentyFour);
        Due.test("1: vertices is n", BoundaryTest::twoToTwentyFourStay);
        Due.test("1: no edges at first", BoundaryTest::noEdgesAtFirst);
        Due.test("2: n", BoundaryTest::verticesStaysTheSame);
        Due.test("3: puts an edge from u to v at the end of the list", BoundaryTest::linkPutsAtTheEnd);
        Due.test("3: -1 if u is not good", BoundaryTest::linkFromWrongVertex);
        Due.test("3: -1 if v is not good", BoundaryTest::linkToWrongVertex);
        Due.test("3: -2 if there are 60 edges", BoundaryTest::linkWhenFull);
        Due.test("3: otherwise answers how many edges there are now", BoundaryTest::linkAnswersTheNumber);
        Due.test("4: takes the edge at position i out, 0 for the first", BoundaryTest::cutTakesThatEdge);
        Due.test("4: later ones move down by one", BoundaryTest::laterEdgesMoveDown);
        Due.test("4: -1 if i is not in 0 .. edges()-1", BoundaryTest::cutOfWrongPosition);
        Due.test("4: otherwise answers how many edges there are now", BoundaryTest::cutAnswersTheNumber);
        Due.test("5: how many edges there are", BoundaryTest::edgesFromNoneToSixty);
    }

    private static void reachability() {
        Due.test("6: 1 if v is reachable", BoundaryTest::reachableFarAndNear);
        Due.test("6: otherwise 0", BoundaryTest::reachableOfLostVertices);
        Due.test("6: -1 if v is not good", () -> wrongVertex(bad -> new Call("reachable", bad), -1));
        Due.test("7: how many vertices are reachable", BoundaryTest::reachableCountFromOneToAll);
    }

    private static void dominators() {
        Due.test("8: -1 if v is not good", () -> wrongVertex(bad -> new Call("immediate", bad), -1));
        Due.test("8: -2 if v is not reachable", () -> lostVertex(v -> new Call("immediate", v), -2));
        Due.test("8: -3 if v is the root", BoundaryTest::immediateOfTheRoot);
        Due.test("9: 1 if u dominates v, otherwise 0", BoundaryTest::dominatesAtTheEnds);
        Due.test("9: otherwise 0, for a u that is not reachable", BoundaryTest::lostVerticesDominateNothing);
        Due.test("9: -1 if u is not good", () -> wrongVertex(bad -> new Call("dominates", bad, 0), -1));
        Due.test("9: -1 if v is not good", () -> wrongVertex(bad -> new Call("dominates", 0, bad), -1));
        Due.test("9: -2 if v is not reachable", () -> lostVertex(v -> new Call("dominates", 0, v), -2));
        Due.test("9: -2 if v is not reachable, with u = v", () -> lostVertex(v -> new Call("dominates", v, v), -2));
        Due.test("10: the root and v are among them", BoundaryTest::commonCountsBothEnds);
        Due.test("10: 1 for the root", BoundaryTest::commonOfTheRoot);
        Due.test("10: -1 if v is not good", () -> wrongVertex(bad -> new Call("common", bad), -1));
        Due.test("10: -2 if v is not reachable", () -> lostVertex(v -> new Call("common", v), -2));
        Due.test("11: among those that dominate both u and v", BoundaryTest::nearestOfOneAndOfTheRoot);
        Due.test("11: the vertex with the most dominators", BoundaryTest::nearestIsTheLast);
        Due.test("11: -1 if u is not good", () -> wrongVertex(bad -> new Call("nearest", bad, 0), -1));
        Due.test("11: -1 if v is not good", () -> wrongVertex(bad -> new Call("nearest", 0, bad), -1));
        Due.test("11: -2 if u is not reachable", () -> lostVertex(u -> new Call("nearest", u, 0), -2));
        Due.test("11: -2 if v is not reachable", () -> lostVertex(v -> new Call("nearest", 0, v), -2));
        Due.test("11: -2 if both are not reachable", () -> lostVertex(v -> new Call("nearest", v, v), -2));
        Due.test("12: u among them", BoundaryTest::belowCountsItself);
        Due.test("12: would not be reachable if u were taken out", BoundaryTest::belowIsWhatTakingOutLoses);
        Due.test("12: -1 if u is not good", () -> wrongVertex(bad -> new Call("below", bad), -1));
        Due.test("12: -2 if u is not reachable", () -> lostVertex(u -> new Call("below", u), -2));
        Due.test("13: how many have u as their immediate dominator", BoundaryTest::childrenFromNoneToAllOthers);
        Due.test("13: reachable vertices", BoundaryTest::childrenAreReachable);
        Due.test("13: -1 if u is not good", () -> wrongVertex(bad -> new Call("children", bad), -1));
        Due.test("13: -2 if u is not reachable", () -> lostVertex(u -> new Call("children", u), -2));
    }

    private static void bordersAndBridges() {
        Due.test("14: some edge leads to v", BoundaryTest::noEdgeNoBorder);
        Due.test("14: from a reachable vertex", BoundaryTest::borderOverReachableVerticesAlone);
        Due.test("14: from a vertex that u dominates", BoundaryTest::borderFromDominatedVertices);
        Due.test("14: u does not dominate v", BoundaryTest::dominatedVerticesAreNoBorder);
        Due.test("14: or u is v", BoundaryTest::borderOfItself);
        Due.test("14: -1 if u is not good", () -> wrongVertex(bad -> new Call("border", bad, 0), -1));
        Due.test("14: -1 if v is not good", () -> wrongVertex(bad -> new Call("border", 0, bad), -1));
        Due.test("14: -2 if u is not reachable", () -> lostVertex(u -> new Call("border", u, 0), -2));
        Due.test("14: -2 if v is not reachable", () -> lostVertex(v -> new Call("border", 0, v), -2));
        Due.test("14: -2 if both are not reachable", () -> lostVertex(v -> new Call("border", v, v), -2));
        Due.test("15: every path to v runs over the edge", BoundaryTest::needsAtTheEnds);
        Due.test("15: v would not be reachable without that one edge", BoundaryTest::needsIsWhatACutLoses);
        Due.test("15: -1 if i is not in 0 .. edges()-1", BoundaryTest::needsOfWrongPosition);
        Due.test("15: -2 if v is not good", () -> wrongVertex(bad -> new Call("needs", 0, bad), -2));
        Due.test("15: -3 if v is not reachable", () -> lostVertex(v -> new Call("needs", 0, v), -3));
        Due.test("16: how many edges", BoundaryTest::bridgesFromNoneToMost);
        Due.test("16: each taken out alone", BoundaryTest::bridgesOneAtATime);
        Due.test("16: some reachable vertex would not be reachable", BoundaryTest::lostEdgesAreNoBridges);
        Due.test("17: the greatest number of dominators", BoundaryTest::heightFromOneToAll);
        Due.test("17: that a reachable vertex has", BoundaryTest::heightOfReachableVertices);
    }

    /** The call with a wrong vertex number is refused, whatever n is and whether the list is short or full. */
    private static void wrongVertex(IntFunction<Call> call, int refusal) {
        for (int n = LEAST; n <= MOST; n++) {
            for (int bad : Beside.range(n)) {
                call.apply(bad).isDue(Graphs.star(n), refusal);
                call.apply(bad).isDue(Graphs.filled(n, 60), refusal);
            }
        }
    }

    /** The call is refused for a vertex as long as no path leads to it, before such a path comes and after it has gone. */
    private static void lostVertex(IntFunction<Call> call, int refusal) {
        for (int v = 3; v < 8; v++) {
            DominatorCert x = Graphs.lost();
            call.apply(v).isDue(x, refusal);
            x.link(2, v);
            Due.holds(call.apply(v) + " is answered when 2 leads to it", call.apply(v).on(x) >= 0);
            x.cut(6);
            call.apply(v).isDue(x, refusal);
        }
        for (int n = LEAST; n <= MOST; n++) {
            DominatorCert x = Graphs.of(n, 0, 0);
            for (int v = 1; v < n; v++) call.apply(v).isDue(x, refusal);
            DominatorCert full = new DominatorCert(n);
            for (int k = 0; k < 60; k++) full.link(n - 1, k % n);
            call.apply(n - 1).isDue(full, refusal);
        }
    }

    private static void belowTwoBecomesTwo() {
        for (int given : new int[] {1, 0, -1, -2, -24, -251, -256, -65531, -65536, LOWEST + 5, LOWEST}) becomes(given, 2);
    }

    private static void aboveTwentyFourBecomesTwentyFour() {
        for (int given : new int[] {25, 26, 32, 60, 256, 261, 65536, 65541, HIGHEST - 1, HIGHEST}) becomes(given, 24);
    }

    private static void twoToTwentyFourStay() {
        for (int given = LEAST; given <= MOST; given++) becomes(given, given);
    }

    /** Not only vertices() says n: the vertices 0 .. n-1 are there, and n is not. */
    private static void becomes(int given, int n) {
        DominatorCert x = new DominatorCert(given);
        Due.answer("new " + given + ": vertices()", x.vertices(), n);
        Due.answer("new " + given + ": reachable(n-1)", x.reachable(n - 1), 0);
        Due.answer("new " + given + ": reachable(n)", x.reachable(n), -1);
        Due.answer("new " + given + ": link(0, n-1)", x.link(0, n - 1), 1);
        Due.answer("new " + given + ": link(0, n)", x.link(0, n), -1);
    }

    private static void noEdgesAtFirst() {
        for (int given = 0; given <= MOST + 1; given++) {
            // The object made before has a full list; the new one has nothing of it.
            Graphs.filled(8, 60);
            DominatorCert x = new DominatorCert(given);
            Due.answer("edges()", x.edges(), 0);
            Due.answer("cut(0)", x.cut(0), -1);
            Due.answer("needs(0, 0)", x.needs(0, 0), -1);
            Due.answer("reachableCount()", x.reachableCount(), 1);
            Due.answer("border(0, 0)", x.border(0, 0), 0);
            Due.answer("bridges()", x.bridges(), 0);
            Due.answer("link(0, 1)", x.link(0, 1), 1);
        }
    }

    private static void verticesStaysTheSame() {
        for (int n = LEAST; n <= MOST; n++) {
            DominatorCert x = Graphs.filled(n, 60);
            Due.answer("vertices() when full", x.vertices(), n);
            x.link(0, 0);
            x.link(n, n);
            x.cut(60);
            Due.answer("vertices() after refused calls", x.vertices(), n);
            for (int k = 0; k < 60; k++) x.cut(0);
            Due.answer("vertices() when empty again", x.vertices(), n);
        }
    }

    private static void edgeIs(String what, DominatorCert x, int length, int i, int u, int v) {
        Due.answer(what, Graphs.readEdge(x, length, i), 100 * u + v);
    }

    private static void linkPutsAtTheEnd() {
        for (int length : new int[] {0, 1, 30, 59}) {
            for (int u = 0; u < 8; u++) {
                for (int v = 0; v < 8; v++) {
                    DominatorCert x = Graphs.filled(8, length);
                    x.link(u, v);
                    edgeIs("the new edge behind " + length, x, length + 1, length, u, v);
                }
            }
        }
        for (int i = 0; i < 59; i++) {
            DominatorCert x = Graphs.filled(8, 59);
            x.link(7, 6);
            edgeIs("edge " + i + " before it", x, 60, i, Graphs.filledFrom(8, i), Graphs.filledTo(8, i));
        }
    }

    private static void linkFromWrongVertex() {
        wrongVertex(bad -> new Call("link", bad, 0), -1);
        wrongVertex(bad -> new Call("link", bad, 1), -1);
        for (int bad : Beside.range(5)) new Call("link", bad, 4).isDue(new DominatorCert(5), -1);
    }

    private static void linkToWrongVertex() {
        wrongVertex(bad -> new Call("link", 0, bad), -1);
        wrongVertex(bad -> new Call("link", 1, bad), -1);
        for (int bad : Beside.range(5)) new Call("link", 4, bad).isDue(new DominatorCert(5), -1);
    }

    private static void linkWhenFull() {
        for (int n = LEAST; n <= MOST; n++) {
            DominatorCert x = Graphs.filled(n, 60);
            for (int v = 0; v < n; v++) {
                new Call("link", 0, v).isDue(x, -2);
                new Call("link", v, n - 1).isDue(x, -2);
            }
            x.cut(0);
            new Call("link", 1, 1).isDue(x, 60);
            new Call("link", 1, 1).isDue(x, -2);
        }
    }

    private static void linkAnswersTheNumber() {
        for (int n = LEAST; n <= MOST; n++) {
            DominatorCert x = new DominatorCert(n);
            for (int k = 1; k <= 60; k++) new Call("link", k % n, k * 7 % n).isDue(x, k);
            for (int k = 0; k < 60; k++) x.cut(0);
            new Call("link", n - 1, 0).isDue(x, 1);
        }
    }

    private static void cutTakesThatEdge() {
        for (int length : new int[] {1, 2, 59, 60}) {
            for (int i = 0; i < length; i++) {
                // The edge at position i is the only one that leads from the root to 1.
                DominatorCert x = new DominatorCert(2);
                for (int k = 0; k < length; k++) x.link(k == i ? 0 : 1, 1);
                Due.answer("reachable(1) before", x.reachable(1), 1);
                x.cut(i);
                Due.answer("reachable(1) when " + i + " of " + length + " is out", x.reachable(1), 0);
            }
        }
    }

    private static void laterEdgesMoveDown() {
        for (int length : new int[] {2, 3, 10, 59, 60}) {
            for (int out = 0; out < length; out++) {
                for (int i = 0; i < length - 1; i++) {
                    DominatorCert x = Graphs.filled(8, length);
                    x.cut(out);
                    int k = i < out ? i : i + 1;
                    String what = "edge " + i + " when " + out + " of " + length + " is out";
                    edgeIs(what, x, length - 1, i, Graphs.filledFrom(8, k), Graphs.filledTo(8, k));
                }
            }
        }
    }

    private static void cutOfWrongPosition() {
        wrongPosition(i -> new Call("cut", i));
    }

    /** The call is refused for a position that is not in the list, be it empty, short, nearly full or full. */
    private static void wrongPosition(IntFunction<Call> call) {
        for (int length = 0; length <= 60; length++) {
            for (int bad : Beside.range(length)) call.apply(bad).isDue(Graphs.filled(5, length), -1);
            for (int i = 0; i < length; i++) {
                Due.holds(call.apply(i) + " of " + length, call.apply(i).on(Graphs.filled(5, length)) >= 0);
            }
        }
        // The positions that the list once had are as wrong as those it never had.
        DominatorCert shrunk = Graphs.filled(5, 60);
        for (int k = 0; k < 50; k++) shrunk.cut(0);
        for (int i = 10; i <= 60; i++) call.apply(i).isDue(shrunk, -1);
    }

    private static void cutAnswersTheNumber() {
        DominatorCert first = Graphs.filled(8, 60);
        DominatorCert last = Graphs.filled(8, 60);
        for (int left = 59; left >= 0; left--) {
            new Call("cut", 0).isDue(first, left);
            new Call("cut", left).isDue(last, left);
        }
        new Call("cut", 0).isDue(first, -1);
        new Call("cut", 0).isDue(last, -1);
    }

    private static void edgesFromNoneToSixty() {
        DominatorCert x = new DominatorCert(8);
        new Call("cut", 0).isDue(x, -1);
        Due.answer("edges() when empty, after a refused cut", x.edges(), 0);
        for (int k = 1; k <= 60; k++) {
            x.link(k % 8, k % 3);
            Due.answer("edges()", x.edges(), k);
        }
        new Call("link", 0, 1).isDue(x, -2);
        Due.answer("edges() when full, after a refused link", x.edges(), 60);
        for (int k = 59; k >= 0; k--) {
            x.cut(k / 2);
            Due.answer("edges()", x.edges(), k);
        }
    }

    private static void reachableFarAndNear() {
        for (int n = LEAST; n <= MOST; n++) {
            Due.answer("the root with no edges", new DominatorCert(n).reachable(0), 1);
            Due.answer("the far end of a path", Graphs.path(n).reachable(n - 1), 1);
            Due.answer("the last of a star", Graphs.star(n).reachable(n - 1), 1);
        }
        Due.answer("over the sixtieth edge", lastEdgeOfSixty().reachable(2), 1);
    }

    /** 59 edges from 0 to 1, and the sixtieth from 1 to 2. */
    private static DominatorCert lastEdgeOfSixty() {
        DominatorCert x = Graphs.sixtyLikeEdges();
        x.cut(0);
        x.link(1, 2);
        return x;
    }

    private static void reachableOfLostVertices() {
        for (int n = LEAST; n <= MOST; n++) {
            for (int v = 1; v < n; v++) Due.answer("with no edges", new DominatorCert(n).reachable(v), 0);
        }
        DominatorCert x = Graphs.lost();
        for (int v = 3; v < 8; v++) new Call("reachable", v).isDue(x, 0);
        Due.answer("reachable(2) when full", Graphs.sixtyLikeEdges().reachable(2), 0);
        DominatorCert cut = lastEdgeOfSixty();
        cut.cut(59);
        Due.answer("reachable(2) when the edge is cut", cut.reachable(2), 0);
    }

    private static void reachableCountFromOneToAll() {
        for (int n = LEAST; n <= MOST; n++) {
            Due.answer("with no edges", new DominatorCert(n).reachableCount(), 1);
            Due.answer("of an edge from the root to itself", Graphs.of(n, 0, 0).reachableCount(), 1);
            Due.answer("of a path", Graphs.path(n).reachableCount(), n);
            Due.answer("of a star", Graphs.star(n).reachableCount(), n);
        }
        Due.answer("of sixty like edges", Graphs.sixtyLikeEdges().reachableCount(), 2);
        Due.answer("with vertices lost", Graphs.lost().reachableCount(), 3);
    }

    private static void immediateOfTheRoot() {
        for (int n = LEAST; n <= MOST; n++) {
            Due.answer("with no edges", new DominatorCert(n).immediate(0), -3);
            Due.answer("with an edge to itself", Graphs.of(n, 0, 0).immediate(0), -3);
            Due.answer("with a path back to it", Graphs.of(n, 0, n - 1, n - 1, 0).immediate(0), -3);
            Due.answer("when full", Graphs.filled(n, 60).immediate(0), -3);
        }
    }

    private static void dominatesAtTheEnds() {
        for (int n = LEAST; n <= MOST; n++) {
            DominatorCert path = Graphs.path(n);
            new Call("dominates", 0, n - 1).isDue(path, 1);
            new Call("dominates", n - 1, n - 1).isDue(path, 1);
            new Call("dominates", n - 1, 0).isDue(path, 0);
            new Call("dominates", n - 2, n - 1).isDue(path, 1);
            DominatorCert star = Graphs.star(n);
            for (int u = 1; u < n - 1; u++) new Call("dominates", u, n - 1).isDue(star, 0);
            new Call("dominates", 0, 0).isDue(new DominatorCert(n), 1);
        }
    }

    private static void lostVerticesDominateNothing() {
        DominatorCert x = Graphs.lost();
        for (int u = 3; u < 8; u++) {
            for (int v = 0; v < 3; v++) new Call("dominates", u, v).isDue(x, 0);
        }
        for (int n = LEAST; n <= MOST; n++) new Call("dominates", n - 1, 0).isDue(new DominatorCert(n), 0);
    }

    private static void commonCountsBothEnds() {
        for (int n = LEAST; n <= MOST; n++) {
            DominatorCert star = Graphs.star(n);
            for (int v = 1; v < n; v++) new Call("common", v).isDue(star, 2);
            DominatorCert path = Graphs.path(n);
            for (int v = 0; v < n; v++) new Call("common", v).isDue(path, v + 1);
        }
    }

    private static void commonOfTheRoot() {
        for (int n = LEAST; n <= MOST; n++) {
            Due.answer("with no edges", new DominatorCert(n).common(0), 1);
            Due.answer("with an edge to itself", Graphs.of(n, 0, 0).common(0), 1);
            Due.answer("with a path back to it", Graphs.of(n, 0, n - 1, n - 1, 0).common(0), 1);
            Due.answer("when full", Graphs.filled(n, 60).common(0), 1);
        }
    }

    private static void nearestOfOneAndOfTheRoot() {
        for (int n = LEAST; n <= MOST; n++) {
            DominatorCert path = Graphs.path(n);
            DominatorCert star = Graphs.star(n);
            for (int v = 0; v < n; v++) {
                new Call("nearest", v, v).isDue(path, v);
                new Call("nearest", 0, v).isDue(path, 0);
                new Call("nearest", v, 0).isDue(path, 0);
                new Call("nearest", v, v).isDue(star, v);
                new Call("nearest", v, n - 1).isDue(star, v == n - 1 ? v : 0);
            }
            new Call("nearest", 0, 0).isDue(new DominatorCert(n), 0);
        }
    }

    private static void nearestIsTheLast() {
        DominatorCert path = Graphs.path(MOST);
        for (int v = 0; v < MOST; v++) {
            new Call("nearest", v, MOST - 1).isDue(path, v);
            new Call("nearest", MOST - 1, v).isDue(path, v);
        }
        // Down 0 -> 23 -> 22 -> .. -> 3, then to 1 and 2: the last one before them has the least number but for theirs.
        DominatorCert down = Graphs.of(MOST, 0, MOST - 1, 3, 1, 3, 2);
        for (int v = MOST - 1; v > 3; v--) down.link(v, v - 1);
        new Call("nearest", 1, 2).isDue(down, 3);
        new Call("nearest", 2, 1).isDue(down, 3);
        new Call("nearest", 1, 10).isDue(down, 10);
    }

    private static void belowCountsItself() {
        for (int n = LEAST; n <= MOST; n++) {
            DominatorCert star = Graphs.star(n);
            for (int u = 1; u < n; u++) new Call("below", u).isDue(star, 1);
            new Call("below", 0).isDue(star, n);
            DominatorCert path = Graphs.path(n);
            for (int u = 0; u < n; u++) new Call("below", u).isDue(path, n - u);
            new Call("below", 0).isDue(new DominatorCert(n), 1);
        }
        Due.answer("below(0) with vertices lost", Graphs.lost().below(0), 3);
        Due.answer("below(0) with a path back to the root", Graphs.of(3, 0, 1, 1, 0).below(0), 2);
    }

    private static void belowIsWhatTakingOutLoses() {
        for (int set = 0; set < 1 << 9; set++) {
            DominatorCert x = Graphs.ofThree(set);
            for (int u = 0; u < 3; u++) {
                if (x.reachable(u) != 1) continue;
                // Without the root there is no path at all.
                int left = u == 0 ? 0 : Graphs.ofThree(withoutEdgesAt(set, u)).reachableCount();
                Due.answer("edges " + set + ": below(" + u + ")", x.below(u), x.reachableCount() - left);
            }
        }
    }

    private static int withoutEdgesAt(int set, int u) {
        int left = set;
        for (int e = 0; e < 9; e++) {
            if (e / 3 == u || e % 3 == u) left &= ~(1 << e);
        }
        return left;
    }

    private static void childrenFromNoneToAllOthers() {
        for (int n = LEAST; n <= MOST; n++) {
            Due.answer("children(0) with no edges", new DominatorCert(n).children(0), 0);
            DominatorCert star = Graphs.star(n);
            new Call("children", 0).isDue(star, n - 1);
            for (int u = 1; u < n; u++) new Call("children", u).isDue(star, 0);
            DominatorCert path = Graphs.path(n);
            for (int u = 0; u < n; u++) new Call("children", u).isDue(path, u == n - 1 ? 0 : 1);
            Due.answer("the root is not its own", Graphs.of(n, 0, 0, 0, 1, 1, 0).children(0), 1);
        }
    }

    private static void childrenAreReachable() {
        DominatorCert x = Graphs.lost();
        new Call("children", 0).isDue(x, 1);
        new Call("children", 1).isDue(x, 1);
        new Call("children", 2).isDue(x, 0);
        for (int set = 0; set < 1 << 9; set++) {
            DominatorCert y = Graphs.ofThree(set);
            int total = 0;
            for (int u = 0; u < 3; u++) total += Math.max(0, y.children(u));
            Due.answer("edges " + set + ": all children", total, y.reachableCount() - 1);
        }
    }

    private static void noEdgeNoBorder() {
        for (int n = LEAST; n <= MOST; n++) {
            new Call("border", 0, 0).isDue(new DominatorCert(n), 0);
            DominatorCert path = Graphs.path(n);
            for (int u = 0; u < n; u++) {
                new Call("border", u, u).isDue(path, 0);
                new Call("border", n - 1, u).isDue(path, 0);
            }
            path.link(n - 1, 0);
            for (int u = 0; u < n; u++) new Call("border", u, 0).isDue(path, 1);
        }
        DominatorCert last = Graphs.sixtyLikeEdges();
        new Call("border", 1, 0).isDue(last, 0);
        last.cut(59);
        last.link(1, 0);
        Due.answer("border(1, 0) over the sixtieth edge", last.border(1, 0), 1);
        last.cut(59);
        new Call("border", 1, 0).isDue(last, 0);
    }

    private static void borderOverReachableVerticesAlone() {
        DominatorCert x = Graphs.lost();
        for (int v = 0; v < 3; v++) {
            new Call("border", 0, v).isDue(x, 0);
            new Call("border", 1, v).isDue(x, 0);
            new Call("border", 2, v).isDue(x, 0);
        }
        x.link(2, 3);
        Due.answer("border(1, 1) when 2 leads to 3 and 3 to 1", x.border(1, 1), 1);
        Due.answer("border(2, 1) when 2 leads to 3 and 3 to 1", x.border(2, 1), 1);
    }

    private static void borderFromDominatedVertices() {
        DominatorCert x = Graphs.of(4, 0, 1, 1, 2, 0, 3, 2, 3);
        Due.answer("border(2, 3), from u itself", x.border(2, 3), 1);
        Due.answer("border(1, 3), from one that u dominates", x.border(1, 3), 1);
        Due.answer("border(0, 3), u dominates v", x.border(0, 3), 0);
        x.link(0, 2);
        Due.answer("border(1, 3), u dominates the start no more", x.border(1, 3), 0);
        Due.answer("border(1, 2), but v is on its border now", x.border(1, 2), 1);
    }

    private static void dominatedVerticesAreNoBorder() {
        for (int n = LEAST; n <= MOST; n++) {
            DominatorCert path = Graphs.path(n);
            // Edges doubled and edges to itself change nothing in what is dominated.
            path.link(0, 1);
            path.link(n - 1, n - 1);
            for (int v = 1; v < n; v++) new Call("border", 0, v).isDue(path, 0);
            for (int u = 0; u < n - 1; u++) {
                new Call("border", u, u + 1).isDue(path, 0);
                new Call("border", u, n - 1).isDue(path, 0);
            }
        }
    }

    private static void borderOfItself() {
        for (int n = LEAST; n <= MOST; n++) {
            DominatorCert x = Graphs.path(n);
            for (int v = 0; v < n; v++) x.link(v, v);
            for (int v = 0; v < n; v++) new Call("border", v, v).isDue(x, 1);
            DominatorCert back = Graphs.path(n);
            back.link(n - 1, 1);
            Due.answer("border(1, 1) over a path back", back.border(1, 1), 1);
            Due.answer("border(0, 0) with no edge back", back.border(0, 0), 0);
            back.link(n - 1, 0);
            Due.answer("border(0, 0) over a path back", back.border(0, 0), 1);
        }
    }

    private static void needsAtTheEnds() {
        for (int n = LEAST; n <= MOST; n++) {
            DominatorCert path = Graphs.path(n);
            for (int i = 0; i < n - 1; i++) {
                new Call("needs", i, n - 1).isDue(path, 1);
                new Call("needs", i, 0).isDue(path, 0);
                // Position i has the edge into n-1-i.
                new Call("needs", i, n - 1 - i).isDue(path, 1);
                new Call("needs", i, n - 2 - i).isDue(path, 0);
            }
        }
        DominatorCert full = lastEdgeOfSixty();
        new Call("needs", 59, 2).isDue(full, 1);
        new Call("needs", 59, 1).isDue(full, 0);
        for (int i = 0; i < 59; i++) new Call("needs", i, 2).isDue(full, 0);
        DominatorCert back = Graphs.of(2, 0, 0, 0, 1, 1, 0, 1, 1);
        int[] due = {0, 1, 0, 0};
        for (int i = 0; i < 4; i++) {
            new Call("needs", i, 1).isDue(back, due[i]);
            new Call("needs", i, 0).isDue(back, 0);
        }
    }

    private static void needsIsWhatACutLoses() {
        for (int set = 0; set < 1 << 9; set++) {
            for (int i = 0; i < Integer.bitCount(set); i++) {
                DominatorCert x = Graphs.ofThree(set);
                DominatorCert cut = Graphs.ofThree(set);
                cut.cut(i);
                for (int v = 0; v < 3; v++) {
                    if (x.reachable(v) != 1) continue;
                    Due.answer("edges " + set + ": needs(" + i + ", " + v + ")", x.needs(i, v), 1 - cut.reachable(v));
                }
            }
        }
    }

    private static void needsOfWrongPosition() {
        wrongPosition(i -> new Call("needs", i, 0));
        for (int n = LEAST; n <= MOST; n++) new Call("needs", 0, 0).isDue(new DominatorCert(n), -1);
        DominatorCert full = lastEdgeOfSixty();
        new Call("needs", 60, 2).isDue(full, -1);
        new Call("needs", -1, 2).isDue(full, -1);
    }

    private static void bridgesFromNoneToMost() {
        for (int n = LEAST; n <= MOST; n++) {
            Due.answer("with no edges", new DominatorCert(n).bridges(), 0);
            Due.answer("of a path", Graphs.path(n).bridges(), n - 1);
            Due.answer("of a star", Graphs.star(n).bridges(), n - 1);
        }
        DominatorCert full = lastEdgeOfSixty();
        Due.answer("of a full list, only the sixtieth edge", full.bridges(), 1);
        full.cut(59);
        Due.answer("when that edge is cut", full.bridges(), 0);
    }

    private static void bridgesOneAtATime() {
        Due.answer("of sixty like edges", Graphs.sixtyLikeEdges().bridges(), 0);
        Due.answer("of two ways round", Graphs.of(4, 0, 1, 1, 3, 0, 2, 2, 3).bridges(), 2);
        for (int set = 0; set < 1 << 9; set++) {
            int due = 0;
            for (int i = 0; i < Integer.bitCount(set); i++) {
                DominatorCert cut = Graphs.ofThree(set);
                cut.cut(i);
                if (cut.reachableCount() < Graphs.ofThree(set).reachableCount()) due++;
            }
            Due.answer("edges " + set + ": bridges()", Graphs.ofThree(set).bridges(), due);
        }
    }

    private static void lostEdgesAreNoBridges() {
        DominatorCert x = Graphs.lost();
        Due.answer("with vertices lost", x.bridges(), 2);
        x.cut(0);
        Due.answer("with all but the root lost", x.bridges(), 0);
        Due.answer("of edges into the root and to itself", Graphs.of(2, 0, 0, 1, 0, 1, 1).bridges(), 0);
    }

    private static void heightFromOneToAll() {
        for (int n = LEAST; n <= MOST; n++) {
            Due.answer("with no edges", new DominatorCert(n).height(), 1);
            Due.answer("of a star", Graphs.star(n).height(), 2);
            Due.answer("of a path", Graphs.path(n).height(), n);
        }
        Due.answer("of sixty like edges", Graphs.sixtyLikeEdges().height(), 2);
        Due.answer("of the first sixty edges of eight vertices", Graphs.filled(8, 60).height(), 2);
    }

    private static void heightOfReachableVertices() {
        Due.answer("with vertices lost", Graphs.lost().height(), 3);
        DominatorCert x = Graphs.path(MOST);
        // Position 22 has the edge 0 -> 1: without it the whole path is lost.
        x.cut(22);
        Due.answer("of a path that the root does not lead to", x.height(), 1);
        Due.answer("of edges into the root", Graphs.of(3, 2, 1, 1, 0).height(), 1);
    }
}
