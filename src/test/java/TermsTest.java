import java.util.ArrayList;
import java.util.List;
import java.util.function.Supplier;

/** What the document says under "What it is" and "Terms": a test of its own for each sentence that names a boundary case. */
public final class TermsTest {
    private static final int LEAST = 2;
    private static final int MOST = 24;

    public static void main(String[] args) {
        Due.test("used for at most 512 calls after it has been made", TermsTest::the512thCallAnswers);
        Due.test("numbered 0 .. n-1; vertex 0 is the root", TermsTest::vertexZeroIsTheRoot);
        Due.test("from one vertex to another (or the same)", TermsTest::edgesToTheSameVertex);
        Due.test("several edges with the same ends", TermsTest::severalEdgesWithTheSameEnds);
        Due.test("in a list, in the order in which they were put in", TermsTest::edgesStandInOrder);
        Due.test("in a list, at most 60", TermsTest::atMostSixtyEdges);
        Due.test("an edge leads from every vertex to the next one", TermsTest::edgesLeadOneWay);
        Due.test("the root alone is a path to the root", TermsTest::theRootAloneIsAPath);
        Due.test("reachable if there is a path to it", TermsTest::reachableOverThePathAlone);
        Due.test("the root always is [reachable]", TermsTest::theRootIsAlwaysReachable);
        Due.test("so v dominates itself", TermsTest::everyReachableVertexDominatesItself);
        Due.test("the root dominates every reachable vertex", TermsTest::theRootDominatesAll);
        Due.test("dominates a reachable vertex v", TermsTest::onlyReachableVerticesAreDominated);
        Due.test("the dominators of v lie in a row", TermsTest::dominatorsLieInARow);
        Due.test("the last one before v in that order", TermsTest::immediateIsTheLastBefore);
        Due.test("no question changes anything", TermsTest::noQuestionChangesAnything);
        Due.test("a refused call changes nothing: link, not good", TermsTest::refusedLinkOfWrongVertices);
        Due.test("a refused call changes nothing: link, full", TermsTest::refusedLinkWhenFull);
        Due.test("a refused call changes nothing: cut", TermsTest::refusedCut);
        Due.test("a refused call changes nothing: the list", TermsTest::refusedCallsLeaveTheList);
        Due.test("the tests are made in the order named: link", TermsTest::orderInLink);
        Due.test("the tests are made in the order named: one vertex", TermsTest::orderForOneVertex);
        Due.test("the tests are made in the order named: immediate", TermsTest::orderInImmediate);
        Due.test("the tests are made in the order named: two vertices", TermsTest::orderForTwoVertices);
        Due.test("the tests are made in the order named: needs", TermsTest::orderInNeeds);
        Due.test("good if it is 0 .. n-1: those are good", TermsTest::goodVertices);
        Due.test("good if it is 0 .. n-1: no others are", TermsTest::otherVertices);
        Due.end();
    }

    private static void the512thCallAnswers() {
        DominatorCert x = new DominatorCert(MOST);
        for (int k = 0; k < 60; k++) new Call("link", k % MOST, (k + 1) % MOST).isDue(x, k + 1);
        // 60 calls are made; 225 times two more make 510.
        for (int k = 0; k < 225; k++) {
            new Call("cut", 59).isDue(x, 59);
            new Call("link", 11, 12).isDue(x, 60);
        }
        Due.answer("call 511: height()", x.height(), MOST);
        Due.answer("call 512: common(23)", x.common(MOST - 1), MOST);
    }

    private static void vertexZeroIsTheRoot() {
        for (int n = LEAST; n <= MOST; n++) {
            DominatorCert x = new DominatorCert(n);
            Due.answer("reachable(0) of " + n, x.reachable(0), 1);
            Due.answer("immediate(0) of " + n, x.immediate(0), -3);
            for (int v = 1; v < n; v++) Due.answer("reachable(" + v + ") of " + n, x.reachable(v), 0);
            Due.answer("the last vertex can be led to, of " + n, Graphs.of(n, 0, n - 1).reachable(n - 1), 1);
        }
    }

    private static void edgesToTheSameVertex() {
        DominatorCert x = new DominatorCert(MOST);
        for (int v = 0; v < MOST; v++) new Call("link", v, v).isDue(x, v + 1);
        Due.answer("reachableCount() with edges to itself alone", x.reachableCount(), 1);
        Due.answer("bridges() with edges to itself alone", x.bridges(), 0);
        Due.answer("height() with edges to itself alone", x.height(), 1);
        Due.answer("border(0, 0)", x.border(0, 0), 1);
        Due.answer("below(0)", x.below(0), 1);
        DominatorCert y = Graphs.of(3, 0, 1, 1, 1, 1, 2);
        Due.answer("common(2) past an edge to itself", y.common(2), 3);
        Due.answer("immediate(1) with an edge to itself", y.immediate(1), 0);
        Due.answer("needs the edge to itself", y.needs(1, 2), 0);
        Due.answer("border(1, 1)", y.border(1, 1), 1);
    }

    private static void severalEdgesWithTheSameEnds() {
        DominatorCert x = Graphs.of(3, 0, 1, 0, 1, 1, 2);
        Due.answer("edges()", x.edges(), 3);
        Due.answer("needs(0, 2)", x.needs(0, 2), 0);
        Due.answer("needs(1, 2)", x.needs(1, 2), 0);
        Due.answer("dominates(1, 2) all the same", x.dominates(1, 2), 1);
        Due.answer("children(0) counts vertices, not edges", x.children(0), 1);
        Due.answer("bridges()", x.bridges(), 1);
        x.cut(0);
        Due.answer("reachable(2) over the second one", x.reachable(2), 1);
        Due.answer("needs(0, 2), the second one is alone now", x.needs(0, 2), 1);
        x.cut(0);
        Due.answer("reachable(2) over none", x.reachable(2), 0);
    }

    private static void edgesStandInOrder() {
        for (int length = 1; length <= 60; length++) {
            for (int i = 0; i < length; i++) listHolds(Graphs.filled(8, length), length, i, i);
        }
    }

    /** Whether position i of the list has the edge that was put in as number k; i may not be asked twice of one object. */
    private static void listHolds(DominatorCert x, int length, int i, int k) {
        int due = 100 * Graphs.filledFrom(8, k) + Graphs.filledTo(8, k);
        Due.answer("edge " + i + " of " + length, Graphs.readEdge(x, length, i), due);
    }

    private static void atMostSixtyEdges() {
        DominatorCert x = Graphs.filled(8, 59);
        Due.answer("the sixtieth edge", x.link(7, 7), 60);
        for (int k = 0; k < 5; k++) {
            Due.answer("one edge more", x.link(7, 7), -2);
            Due.answer("edges()", x.edges(), 60);
        }
    }

    private static void edgesLeadOneWay() {
        for (int n = LEAST; n <= MOST; n++) {
            DominatorCert back = new DominatorCert(n);
            for (int v = 1; v < n; v++) back.link(v, v - 1);
            Due.answer("reachableCount() with all edges towards the root", back.reachableCount(), 1);
            Due.answer("reachable(1) with all edges towards the root", back.reachable(1), 0);
        }
    }

    private static void theRootAloneIsAPath() {
        for (int n = LEAST; n <= MOST; n++) {
            DominatorCert x = new DominatorCert(n);
            Due.answer("reachable(0)", x.reachable(0), 1);
            Due.answer("common(0)", x.common(0), 1);
            Due.answer("dominates(0, 0)", x.dominates(0, 0), 1);
            x.link(0, 1);
            x.link(1, 0);
            Due.answer("common(0) with a path back to the root", x.common(0), 1);
            Due.answer("dominates(1, 0) with a path back to the root", x.dominates(1, 0), 0);
            Due.answer("needs(1, 0) with a path back to the root", x.needs(1, 0), 0);
        }
    }

    private static void reachableOverThePathAlone() {
        for (int n = LEAST; n <= MOST; n++) {
            Due.answer("reachable(far end) of " + n, Graphs.path(n).reachable(n - 1), 1);
            for (int i = 0; i < n - 1; i++) {
                DominatorCert x = Graphs.path(n);
                x.cut(i);
                // Position i has the edge n-2-i -> n-1-i, as the path was put in from its far end on.
                Due.answer("the last vertex before the gap", x.reachable(n - 2 - i), 1);
                Due.answer("the first vertex behind the gap", x.reachable(n - 1 - i), 0);
                Due.answer("reachableCount() before the gap", x.reachableCount(), n - 1 - i);
            }
        }
    }

    private static void theRootIsAlwaysReachable() {
        for (int set = 0; set < 1 << 9; set++) {
            DominatorCert x = Graphs.ofThree(set);
            Due.answer("reachable(0)", x.reachable(0), 1);
            for (int k = Integer.bitCount(set); k > 0; k--) x.cut(0);
            Due.answer("reachable(0) when all edges are cut", x.reachable(0), 1);
        }
        Due.answer("reachable(0) when full", Graphs.filled(8, 60).reachable(0), 1);
        Due.answer("reachable(0) with vertices lost", Graphs.lost().reachable(0), 1);
    }

    private static void everyReachableVertexDominatesItself() {
        for (int set = 0; set < 1 << 9; set++) {
            DominatorCert x = Graphs.ofThree(set);
            for (int v = 0; v < 3; v++) {
                Due.answer("dominates(" + v + ", " + v + ")", x.dominates(v, v), x.reachable(v) == 1 ? 1 : -2);
            }
        }
        DominatorCert path = Graphs.path(MOST);
        for (int v = 0; v < MOST; v++) Due.answer("dominates itself on a path", path.dominates(v, v), 1);
    }

    private static void theRootDominatesAll() {
        for (int set = 0; set < 1 << 9; set++) {
            DominatorCert x = Graphs.ofThree(set);
            for (int v = 0; v < 3; v++) {
                Due.answer("dominates(0, " + v + ")", x.dominates(0, v), x.reachable(v) == 1 ? 1 : -2);
            }
            Due.answer("below(0)", x.below(0), x.reachableCount());
        }
        DominatorCert path = Graphs.path(MOST);
        for (int v = 0; v < MOST; v++) Due.answer("dominates(0, " + v + ") on a path", path.dominates(0, v), 1);
    }

    private static void onlyReachableVerticesAreDominated() {
        DominatorCert x = Graphs.lost();
        for (int v = 3; v < 8; v++) {
            for (int u = 0; u < 8; u++) new Call("dominates", u, v).isDue(x, -2);
        }
        Due.answer("below(0) leaves them out", x.below(0), 3);
        Due.answer("children(0) leaves them out", x.children(0), 1);
        Due.answer("height() leaves them out", x.height(), 3);
    }

    private static void dominatorsLieInARow() {
        rowOfDominators(Graphs::diamond, 8);
        rowOfDominators(() -> Graphs.path(12), 12);
        rowOfDominators(() -> Graphs.filled(8, 60), 8);
        for (int set = 0; set < 1 << 9; set++) {
            int edges = set;
            rowOfDominators(() -> Graphs.ofThree(edges), 3);
        }
    }

    /** From v over immediate dominators to the root: just the dominators of v, each with one dominator fewer. */
    private static void rowOfDominators(Supplier<DominatorCert> build, int n) {
        for (int v = 0; v < n; v++) {
            DominatorCert x = build.get();
            if (x.reachable(v) != 1) continue;
            int left = x.common(v);
            boolean[] inRow = new boolean[n];
            for (int u = v; u >= 0 && left > 0; u = x.immediate(u)) {
                inRow[u] = true;
                Due.answer("common(" + u + ") in the row to " + v, x.common(u), left);
                left--;
            }
            Due.answer("what is left of the row to " + v, left, 0);
            for (int u = 0; u < n; u++) new Call("dominates", u, v).isDue(x, inRow[u] ? 1 : 0);
        }
    }

    private static void immediateIsTheLastBefore() {
        for (int n = LEAST; n <= MOST; n++) {
            DominatorCert path = Graphs.path(n);
            for (int v = 1; v < n; v++) new Call("immediate", v).isDue(path, v - 1);
            DominatorCert star = Graphs.star(n);
            for (int v = 1; v < n; v++) new Call("immediate", v).isDue(star, 0);
        }
        // The numbers fall along the path, so that the last in order is not the greatest.
        DominatorCert down = new DominatorCert(MOST);
        down.link(0, MOST - 1);
        for (int v = MOST - 1; v > 1; v--) down.link(v, v - 1);
        for (int v = 1; v < MOST - 1; v++) new Call("immediate", v).isDue(down, v + 1);
        new Call("immediate", MOST - 1).isDue(down, 0);
    }

    private static void noQuestionChangesAnything() {
        changedByNoQuestion(() -> new DominatorCert(LEAST), LEAST, 0);
        changedByNoQuestion(Graphs::diamond, 8, 8);
        changedByNoQuestion(() -> Graphs.filled(3, 60), 3, 60);
    }

    private static void changedByNoQuestion(Supplier<DominatorCert> build, int n, int edges) {
        List<Call> all = Call.questions(n, edges);
        for (Call question : all) changesNothing(build, question, all);
        for (int far : new int[] {Integer.MIN_VALUE, -32, 32, Integer.MAX_VALUE}) {
            for (String name : Call.QUESTIONS_OF_ONE) changesNothing(build, new Call(name, far), all);
            for (String name : Call.QUESTIONS_OF_TWO) changesNothing(build, new Call(name, far, far), all);
            changesNothing(build, new Call("needs", far, far), all);
        }
    }

    /**
     * After the call, one object gives to all questions the answers that objects give which were never asked
     * before: at once, and when an edge has gone and one has come.
     */
    private static void changesNothing(Supplier<DominatorCert> build, Call call, List<Call> questions) {
        DominatorCert now = build.get();
        call.on(now);
        Due.holds("no change by " + call, Call.answers(now, questions).equals(firstAnswers(build, questions)));

        DominatorCert later = build.get();
        call.on(later);
        replaceAnEdge(later);
        Supplier<DominatorCert> replaced = () -> replaceAnEdge(build.get());
        Due.holds("no later change by " + call, Call.answers(later, questions).equals(firstAnswers(replaced, questions)));
    }

    private static DominatorCert replaceAnEdge(DominatorCert x) {
        x.cut(0);
        x.link(0, 1);
        return x;
    }

    private static List<Integer> firstAnswers(Supplier<DominatorCert> build, List<Call> questions) {
        List<Integer> answers = new ArrayList<>();
        for (Call question : questions) answers.add(question.on(build.get()));
        return answers;
    }

    private static void refused(Supplier<DominatorCert> build, Call call, int answer, List<Call> questions) {
        call.isDue(build.get(), answer);
        changesNothing(build, call, questions);
    }

    private static void refusedLinkOfWrongVertices() {
        for (int bad : Beside.range(8)) {
            for (Call call : linksWith(bad, 8)) refused(Graphs::diamond, call, -1, Call.questions(8, 8));
        }
        for (int bad : Beside.range(LEAST)) {
            for (Call call : linksWith(bad, LEAST)) {
                refused(() -> new DominatorCert(LEAST), call, -1, Call.questions(LEAST, 1));
            }
        }
    }

    private static List<Call> linksWith(int bad, int n) {
        return List.of(new Call("link", bad, 0), new Call("link", 0, bad), new Call("link", bad, n - 1),
            new Call("link", n - 1, bad), new Call("link", bad, bad));
    }

    private static void refusedLinkWhenFull() {
        List<Call> questions = Call.questions(3, 60);
        for (int u = 0; u < 3; u++) {
            for (int v = 0; v < 3; v++) {
                refused(() -> Graphs.filled(3, 60), new Call("link", u, v), -2, questions);
                refused(Graphs::sixtyLikeEdges, new Call("link", u, v), -2, questions);
            }
        }
        for (Call call : linksWith(3, 3)) refused(Graphs::sixtyLikeEdges, call, -1, questions);
    }

    private static void refusedCut() {
        for (int bad : Beside.range(0)) {
            refused(() -> new DominatorCert(LEAST), new Call("cut", bad), -1, Call.questions(LEAST, 1));
        }
        for (int bad : Beside.range(8)) {
            refused(Graphs::diamond, new Call("cut", bad), -1, Call.questions(8, 8));
        }
        for (int bad : Beside.range(60)) {
            refused(() -> Graphs.filled(3, 60), new Call("cut", bad), -1, Call.questions(3, 60));
        }
    }

    private static void refusedCallsLeaveTheList() {
        List<Call> calls = new ArrayList<>();
        for (int bad : new int[] {Integer.MIN_VALUE, -1, 8, Integer.MAX_VALUE}) calls.addAll(linksWith(bad, 8));
        for (int bad : new int[] {Integer.MIN_VALUE, -1, 60, Integer.MAX_VALUE}) calls.add(new Call("cut", bad));
        for (int length : new int[] {1, 7, 59, 60}) {
            for (int i = 0; i < length; i++) {
                DominatorCert x = Graphs.filled(8, length);
                for (Call call : calls) call.isDue(x, -1);
                new Call("cut", length).isDue(x, -1);
                if (length == 60) new Call("link", 7, 7).isDue(x, -2);
                listHolds(x, length, i, i);
            }
        }
    }

    private static void orderInLink() {
        for (int bad : Beside.range(3)) {
            for (Call call : linksWith(bad, 3)) call.isDue(Graphs.sixtyLikeEdges(), -1);
        }
        new Call("link", 2, 2).isDue(Graphs.sixtyLikeEdges(), -2);
    }

    /** A number that is not good is no vertex's, so it is neither reachable nor the root. */
    private static void orderForOneVertex() {
        for (int bad : Beside.range(8)) {
            for (String name : Call.QUESTIONS_OF_ONE) new Call(name, bad).isDue(Graphs.lost(), -1);
        }
    }

    /** The root is always reachable, so -2 comes first and is still never its answer, whatever edges there are. */
    private static void orderInImmediate() {
        for (int set = 0; set < 1 << 9; set++) {
            DominatorCert x = Graphs.ofThree(set);
            new Call("immediate", 0).isDue(x, -3);
            for (int v = 1; v < 3; v++) {
                int answer = x.immediate(v);
                Due.holds("immediate(" + v + ") is -2 just if it is not reachable", (answer == -2) == (x.reachable(v) == 0));
                Due.holds("immediate(" + v + ") is never -3", answer != -3);
            }
            for (int k = Integer.bitCount(set); k > 0; k--) x.cut(0);
            new Call("immediate", 0).isDue(x, -3);
        }
        new Call("immediate", 0).isDue(Graphs.lost(), -3);
        for (int n = LEAST; n <= MOST; n++) new Call("immediate", 0).isDue(new DominatorCert(n), -3);
    }

    private static void orderForTwoVertices() {
        for (String name : Call.QUESTIONS_OF_TWO) {
            for (int bad : Beside.range(8)) {
                DominatorCert x = Graphs.lost();
                for (int lost = 3; lost < 8; lost++) {
                    new Call(name, bad, lost).isDue(x, -1);
                    new Call(name, lost, bad).isDue(x, -1);
                }
                new Call(name, bad, bad).isDue(x, -1);
            }
        }
    }

    private static void orderInNeeds() {
        for (int badVertex : Beside.range(8)) {
            DominatorCert x = Graphs.lost();
            for (int badPosition : Beside.range(6)) new Call("needs", badPosition, badVertex).isDue(x, -1);
            for (int i = 0; i < 6; i++) new Call("needs", i, badVertex).isDue(x, -2);
        }
        for (int lost = 3; lost < 8; lost++) {
            DominatorCert x = Graphs.lost();
            for (int badPosition : Beside.range(6)) new Call("needs", badPosition, lost).isDue(x, -1);
            for (int i = 0; i < 6; i++) new Call("needs", i, lost).isDue(x, -3);
        }
    }

    private static void goodVertices() {
        for (int n = LEAST; n <= MOST; n++) {
            for (int v = 0; v < n; v++) {
                Due.answer("link from " + v, new DominatorCert(n).link(v, n - 1), 1);
                Due.answer("link to " + v, new DominatorCert(n).link(n - 1, v), 1);
                DominatorCert x = Graphs.star(n);
                for (String name : Call.QUESTIONS_OF_ONE) isTaken(new Call(name, v), x, -1);
                for (String name : Call.QUESTIONS_OF_TWO) {
                    for (int u : new int[] {0, n - 1}) {
                        isTaken(new Call(name, u, v), x, -1);
                        isTaken(new Call(name, v, u), x, -1);
                    }
                }
                isTaken(new Call("needs", 0, v), x, -2);
            }
        }
    }

    private static void isTaken(Call call, DominatorCert x, int refusal) {
        Due.holds(call + " is not refused", call.on(x) != refusal);
    }

    private static void otherVertices() {
        for (int n = LEAST; n <= MOST; n++) {
            for (int bad : Beside.range(n)) {
                for (Call call : linksWith(bad, n)) call.isDue(Graphs.star(n), -1);
                DominatorCert x = Graphs.star(n);
                for (String name : Call.QUESTIONS_OF_ONE) new Call(name, bad).isDue(x, -1);
                for (String name : Call.QUESTIONS_OF_TWO) {
                    for (int u : new int[] {0, n - 1, bad}) {
                        new Call(name, u, bad).isDue(x, -1);
                        new Call(name, bad, u).isDue(x, -1);
                    }
                }
                new Call("needs", 0, bad).isDue(x, -2);
            }
        }
    }
}
