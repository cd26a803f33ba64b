import java.util.ArrayList;
import java.util.List;

/** A call by its name and arguments, so that a test can speak of every method alike. */
final class Call {
    static final String[] PLAIN_QUESTIONS = {"vertices", "edges", "reachableCount", "bridges", "height"};
    static final String[] QUESTIONS_OF_ONE = {"reachable", "immediate", "common", "below", "children"};
    static final String[] QUESTIONS_OF_TWO = {"dominates", "nearest", "border"};

    private final String name;
    private final int[] args;

    Call(String name, int... args) {
        this.name = name;
        this.args = args;
    }

    int on(DominatorCert x) {
        return switch (name) {
            case "vertices" -> x.vertices();
            case "link" -> x.link(args[0], args[1]);
            case "cut" -> x.cut(args[0]);
            case "edges" -> x.edges();
            case "reachable" -> x.reachable(args[0]);
            case "reachableCount" -> x.reachableCount();
            case "immediate" -> x.immediate(args[0]);
            case "dominates" -> x.dominates(args[0], args[1]);
            case "common" -> x.common(args[0]);
            case "nearest" -> x.nearest(args[0], args[1]);
            case "below" -> x.below(args[0]);
            case "children" -> x.children(args[0]);
            case "border" -> x.border(args[0], args[1]);
            case "needs" -> x.needs(args[0], args[1]);
            case "bridges" -> x.bridges();
            case "height" -> x.height();
            default -> throw new IllegalArgumentException(name);
        };
    }

    void isDue(DominatorCert x, int want) {
        Due.answer(toString(), on(x), want);
    }

    /** Every question, with every argument that is in its range or one beside it. */
    static List<Call> questions(int n, int edges) {
        List<Call> all = new ArrayList<>();
        for (String name : PLAIN_QUESTIONS) all.add(new Call(name));
        for (int v = -1; v <= n; v++) {
            for (String name : QUESTIONS_OF_ONE) all.add(new Call(name, v));
            for (int u = -1; u <= n; u++) {
                for (String name : QUESTIONS_OF_TWO) all.add(new Call(name, u, v));
            }
            for (int i = -1; i <= edges; i++) all.add(new Call("needs", i, v));
        }
        return all;
    }

    static List<Integer> answers(DominatorCert x, List<Call> calls) {
        List<Integer> answers = new ArrayList<>();
        for (Call call : calls) answers.add(call.on(x));
        return answers;
    }

    @Override
    public String toString() {
        StringBuilder text = new StringBuilder(name).append('(');
        for (int k = 0; k < args.length; k++) text.append(k == 0 ? "" : ", ").append(args[k]);
        return text.append(')').toString();
    }
}
