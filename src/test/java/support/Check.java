/** Counts what is as it is due and prints what is not. */
public final class Check {
    private static int right = 0;
    private static int wrong = 0;

    private Check() {
    }

    public static void is(String what, long want, long got) {
        if (want == got) {
            right++;
        } else {
            wrong++;
            System.out.println("  " + what + ": " + got + ", due is " + want);
        }
    }

    public static void holds(String what, boolean answer) {
        is(what, 1, answer ? 1 : 0);
    }

    public static void finish() {
        System.out.println("  " + right + " answers as due, " + wrong + " not");
        System.exit(wrong == 0 && right > 0 ? 0 : 1);
    }
}
