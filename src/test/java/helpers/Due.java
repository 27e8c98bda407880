/** Counts the answers that are not as due, and prints each of them. */
final class Due {
    private static int wrong = 0;
    private static int checked = 0;
    private static String sentence = "";

    private Due() {
    }

    /** What the answers are due by, from here on: it is printed with each that is wrong. */
    static void by(String words) {
        sentence = words.isEmpty() ? "" : "[" + words + "] ";
    }

    static void is(String what, long got, long want) {
        checked++;
        if (got != want) {
            wrong++;
            System.out.println(sentence + what + " answered " + got + ", due is " + want);
        }
    }

    static void same(String what, String got, String want) {
        checked++;
        if (!got.equals(want)) {
            wrong++;
            System.out.println(sentence + what + ": " + got + ", due is: " + want);
        }
    }

    static int wrong() {
        return wrong;
    }

    /** Ends the program, with exit code 1 if any answer was not as due. */
    static void end() {
        System.out.println(checked + " answers looked at, " + wrong + " not as due");
        if (wrong != 0 || checked == 0) {
            System.exit(1);
        }
    }
}
