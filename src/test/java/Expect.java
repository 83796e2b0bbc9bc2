/** Counts and prints the answers that are not the due ones. */
final class Expect {
    private static int asked = 0;
    private static int wrong = 0;

    private Expect() {
    }

    static void equal(String what, Object got, Object want) {
        asked++;
        boolean isDue = got == null ? want == null : got.equals(want);
        if (!isDue) {
            wrong++;
            System.out.println(what + ": answered " + got + ", due is " + want);
        }
    }

    static void yes(String what, boolean got) {
        equal(what, got, true);
    }

    static void no(String what, boolean got) {
        equal(what, got, false);
    }

    /** To be called last: ends the program with exit code 1 when an answer was wrong. */
    static void end() {
        System.out.println(wrong == 0 ? "all " + asked + " answers are as due" : wrong + " answers are not as due");
        if (wrong != 0) {
            System.exit(1);
        }
    }
}
