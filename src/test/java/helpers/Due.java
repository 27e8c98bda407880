/** Counts the answers that are not as due, and prints each of them. */
final class Due {
    private static int wrong = 0;
    private static int checked = 0;

    private Due() {
    }

    static void is(String what, long got, long want) {
        checked++;
        if (got != want) {
            wrong++;
            System.out.println(what + " answered " + got + ", due is " + want);
        }
    }

    static int wrong() {
        return wrong;
    }

    /** Ends the program, with exit code 1 if any answer was not as due. */
    static void end() {
        System.out.println(checked + " answers looked at, " + wrong + " not as due");
        if (wrong != 0 || checked == 0) {
            System.exit(1);
        }
    }
}
