/** What every test of the project uses: it counts answers, tells the wrong ones, and ends the run. */
final class Checks {
    private static int right = 0;
    private static int wrong = 0;

    private Checks() {
    }

    static void due(String call, long want, long got) {
        if (got == want) {
            right++;
        } else {
            wrong++;
            System.out.println(call + " answered " + got + ", due is " + want);
        }
    }

    static void holds(String what, boolean so) {
        if (so) {
            right++;
        } else {
            wrong++;
            System.out.println("not so: " + what);
        }
    }

    static void end() {
        System.out.println("checks: " + right + " right, " + wrong + " wrong");
        if (wrong != 0 || right == 0) {
            System.exit(1);
        }
    }
}
