/** Counts and prints the answers that are not the ones that are due. */
final class Due {
    private static final int MOST_PRINTED = 40;
    private static int wrong = 0;

    private Due() { }

    static void answer(String call, int got, int want) {
        if (got == want) return;
        wrong++;
        if (wrong <= MOST_PRINTED) System.out.println(call + " answered " + got + ", due is " + want);
    }

    static void holds(String what, boolean held) {
        answer(what, held ? 1 : 0, 1);
    }

    static void end() {
        System.out.println(wrong == 0 ? "all answers are as due" : wrong + " answers are not as due");
        if (wrong != 0) System.exit(1);
    }
}
