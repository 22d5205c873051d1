/** Counts answers that are due and those that are not; a test's main ends with Due.end(). */
final class Due {
    private static int right = 0;
    private static int wrong = 0;

    private Due() {
    }

    static void is(String call, long got, long want) {
        if (got == want) {
            right++;
            return;
        }
        wrong++;
        if (wrong <= 40) {
            System.out.println(call + " answered " + got + ", due is " + want);
        }
    }

    static boolean allRight() {
        return wrong == 0;
    }

    static void end() {
        System.out.println(right + " passed, " + wrong + " failed");
        if (wrong > 0) {
            System.exit(1);
        }
    }
}
