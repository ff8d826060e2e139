/** Counts and prints the answers that are not the ones due; ends a test with exit code 1 if there was one. */
final class Due {
    private static final int MOST_SHOWN = 10;

    private static int wrong = 0;
    private static int asked = 0;
    private static int wrongHere = 0;
    private static String words = "";

    private Due() {
    }

    /** Runs the test of one sentence of the document; a wrong answer in it is told with the sentence's words. */
    static void sentence(String ofDocument, Runnable test) {
        words = ofDocument;
        wrongHere = 0;
        int askedBefore = asked;
        try {
            test.run();
        } catch (RuntimeException thrown) {
            wrong("a call threw " + thrown);
        }
        if (asked == askedBefore) {
            wrong("nothing was asked");
        }
        words = "";
        wrongHere = 0;
    }

    static void is(String call, int got, int want) {
        asked++;
        if (got != want) {
            wrong(call + " answered " + got + ", due is " + want);
        }
    }

    static void is(String call, boolean got, boolean want) {
        asked++;
        if (got != want) {
            wrong(call + " answered " + got + ", due is " + want);
        }
    }

    private static void wrong(String told) {
        wrong++;
        wrongHere++;
        if (wrongHere == 1 && !words.isEmpty()) {
            System.out.println("BROKEN: " + words);
        }
        if (wrongHere <= MOST_SHOWN) {
            System.out.println(told);
        }
    }

    static int wrongSoFar() {
        return wrong;
    }

    static void end() {
        if (asked == 0) {
            System.out.println("nothing was asked");
            System.exit(1);
        }
        if (wrong != 0) {
            System.out.println(wrong + " of " + asked + " answers are not as due");
            System.exit(1);
        }
        System.out.println(asked + " answers are as due");
    }
}
