/** Counts the answers that are not as due, and ends a test by them. */
public final class Due {
    private static int asked = 0;
    private static int wrong = 0;

    private Due() {
    }

    public static void due(String call, long got, long want) {
        asked++;
        if (got == want) return;
        wrong++;
        if (wrong <= 50) System.out.println(call + " answered " + got + ", due is " + want);
    }

    public static void due(String what, boolean holds) {
        due(what, holds ? 1 : 0, 1);
    }

    public static void end() {
        System.out.println(asked + " answers, " + wrong + " not as due");
        if (wrong != 0 || asked == 0) System.exit(1);
    }
}
