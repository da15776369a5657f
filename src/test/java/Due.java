// Counts and prints the answers of a test that are not the ones due.
final class Due {
    private static int wrong = 0;

    private Due() {
    }

    static void is(String call, long got, long want) {
        if (got == want) return;
        wrong++;
        System.out.println(call + " answered " + got + ", due is " + want);
    }

    static void end() {
        System.out.println(wrong == 0 ? "all answers are as due" : wrong + " answers are not as due");
        if (wrong != 0) System.exit(1);
    }
}
