/** Counts and prints the answers that are not the ones due; ends a test with exit code 1 if there was one. */
final class Due {
    private static int wrong = 0;
    private static int asked = 0;

    private Due() {
    }

    static void is(String call, int got, int want) {
        asked++;
        if (got != want) {
            wrong++;
            System.out.println(call + " answered " + got + ", due is " + want);
        }
    }

    static void is(String call, boolean got, boolean want) {
        is(call, got ? 1 : 0, want ? 1 : 0);
    }

    static int wrongSoFar() {
        return wrong;
    }

    static void end() {
        if (asked == 0) {
            System.out.println("nothing was asked");
            System.exit(1);
        }
        if (wrong != 0) {
            System.out.println(wrong + " of " + asked + " answers are not as due");
            System.exit(1);
        }
        System.out.println(asked + " answers are as due");
    }
}
