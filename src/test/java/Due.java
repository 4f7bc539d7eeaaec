/** Counts the answers that are not as due. */
final class Due {
    private static int wrong = 0;
    private static int asked = 0;
    private static String test = "";

    private Due() {
    }

    /** What follows belongs to a test of this name. */
    static void begin(String name) {
        test = name + ": ";
    }

    static int asked() {
        return asked;
    }

    static void is(String what, long got, long want) {
        asked++;
        if (got != want) {
            wrong(what, Long.toString(got), Long.toString(want));
        }
    }

    static void is(String what, boolean got, boolean want) {
        is(what, got ? 1 : 0, want ? 1 : 0);
    }

    static void is(String what, String got, String want) {
        asked++;
        if (!got.equals(want)) {
            wrong(what, got, want);
        }
    }

    private static void wrong(String what, String got, String want) {
        wrong++;
        if (wrong <= 40) {
            System.out.println(test + what + " answered " + got + ", due is " + want);
        }
    }

    static void end() {
        System.out.println(asked + " answers, " + wrong + " not as due");
        if (wrong != 0 || asked == 0) {
            System.exit(1);
        }
    }
}
