/** The example in README.md, call by call: whoever changes one changes the other. */
public final class ReadmeTest {
    public static void main(String[] args) {
        DominatorCert x = new DominatorCert(6);
        grows(x);
        asks(x);
        shrinks(x);
        Due.end();
    }

    private static void grows(DominatorCert x) {
        Due.answer("vertices()", x.vertices(), 6);
        Due.answer("link(0, 1)", x.link(0, 1), 1);
        Due.answer("link(1, 2)", x.link(1, 2), 2);
        Due.answer("link(1, 3)", x.link(1, 3), 3);
        Due.answer("link(2, 4)", x.link(2, 4), 4);
        Due.answer("link(3, 4)", x.link(3, 4), 5);
        Due.answer("edges()", x.edges(), 5);
    }

    private static void asks(DominatorCert x) {
        Due.answer("reachable(5)", x.reachable(5), 0);
        Due.answer("reachableCount()", x.reachableCount(), 5);
        Due.answer("immediate(4)", x.immediate(4), 1);
        Due.answer("dominates(2, 4)", x.dominates(2, 4), 0);
        Due.answer("common(4)", x.common(4), 3);
        Due.answer("nearest(2, 3)", x.nearest(2, 3), 1);
        Due.answer("below(1)", x.below(1), 4);
        Due.answer("children(1)", x.children(1), 3);
        Due.answer("border(2, 4)", x.border(2, 4), 1);
        Due.answer("needs(0, 4)", x.needs(0, 4), 1);
        Due.answer("bridges()", x.bridges(), 3);
        Due.answer("height()", x.height(), 3);
    }

    private static void shrinks(DominatorCert x) {
        Due.answer("cut(0)", x.cut(0), 4);
        Due.answer("reachable(4)", x.reachable(4), 0);
        Due.answer("immediate(4)", x.immediate(4), -2);
        Due.answer("link(0, 6)", x.link(0, 6), -1);
    }
}
