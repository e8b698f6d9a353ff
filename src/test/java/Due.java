/** Counts the answers that are not as due, and ends a test with exit code 1 if there was one. */
final class Due {
    private static int asked = 0;
    private static int wrong = 0;

    private Due() {
    }

    static void is(String call, long got, long want) {
        asked++;
        if (got != want) {
            wrong++;
            System.out.println(call + " answered " + got + ", due is " + want);
        }
    }

    static void holds(String claim, boolean so) {
        is(claim, so ? 1 : 0, 1);
    }

    static int wrongSoFar() {
        return wrong;
    }

    static void close(String name) {
        System.out.println(name + ": " + asked + " answers, " + wrong + " not as due");
        System.exit(wrong == 0 ? 0 : 1);
    }
}
