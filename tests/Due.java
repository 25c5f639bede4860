/** Counts the answers that are not due, and ends a test with exit code 1 if there was one. */
final class Due {
    private static int wrong = 0;
    private static int asked = 0;
    private static int sentences = 0;
    private static String sentence = "";

    private Due() {
    }

    static void is(String call, String got, String want) {
        asked++;
        if (!got.equals(want)) {
            wrong++;
            System.out.println(sentence + call + " answered " + got + ", due is " + want);
        }
    }

    static void is(String call, long got, long want) {
        is(call, Long.toString(got), Long.toString(want));
    }

    static void is(String call, boolean got, boolean want) {
        is(call, Boolean.toString(got), Boolean.toString(want));
    }

    /** Runs the test of one sentence of the document, which must ask for something. */
    static void sentence(String words, Runnable test) {
        int before = asked;
        sentence = "\"" + words + "\": ";
        test.run();
        is("a test", asked > before, true);
        sentence = "";
        sentences++;
    }

    static void close(String test) {
        String of = sentences > 0 ? " of " + sentences + " sentences" : "";
        System.out.println(test + ": " + asked + " answers" + of + ", " + wrong + " not as due");
        if (wrong > 0 || asked == 0) {
            System.exit(1);
        }
    }
}
