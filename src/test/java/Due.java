/** Counts and prints the answers that are not the ones that are due. */
final class Due {
    private static final int MOST_PRINTED = 40;
    private static int wrong = 0;
    private static int looked = 0;
    private static String sentence = "";

    private Due() { }

    /** The test of one sentence of the document. A throw counts as a wrong answer, so that the other tests still run. */
    static void test(String ofSentence, Runnable test) {
        sentence = "[" + ofSentence + "] ";
        int before = looked;
        try {
            test.run();
        } catch (RuntimeException thrown) {
            holds("a call threw " + thrown, false);
        }
        if (looked == before) holds("a test that looks at an answer", false);
        sentence = "";
    }

    static void answer(String call, int got, int want) {
        looked++;
        if (got == want) return;
        wrong++;
        if (wrong <= MOST_PRINTED) System.out.println(sentence + call + " answered " + got + ", due is " + want);
    }

    static void holds(String what, boolean held) {
        answer(what, held ? 1 : 0, 1);
    }

    static void end() {
        System.out.println(wrong == 0 ? "all answers are as due" : wrong + " answers are not as due");
        if (wrong != 0) System.exit(1);
    }
}
