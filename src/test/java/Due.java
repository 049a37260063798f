/** Counts the answers of a test that are not the ones that are due. */
final class Due {
    private static final int SECONDS = 600;

    private static int right = 0;
    private static int wrong = 0;
    private static int rightAhead = 0;
    private static int sentences = 0;
    private static String sentence = "";

    static {
        Thread watch = new Thread(Due::stopAtLast);
        watch.setDaemon(true);
        watch.start();
    }

    private Due() {
    }

    /** A call that does not end is a failure, too. */
    private static void stopAtLast() {
        try {
            Thread.sleep(SECONDS * 1000L);
        } catch (InterruptedException e) {
            return;
        }
        System.out.println("not at its end behind " + SECONDS + " seconds [" + sentence + "]");
        Runtime.getRuntime().halt(1);
    }

    /**
     * What is asked from here on is a test of this sentence of the document: where says "1" to
     * "42" for a promise, "T1" to "T4" for a section of the terms. DocumentTest reads the calls
     * of this method off the sources, so both stand there as written out texts.
     */
    static void says(String where, String words) {
        endSentence();
        sentences++;
        sentence = where + ": " + words;
    }

    private static void endSentence() {
        if (sentences > 0 && right + wrong == rightAhead) {
            wrong++;
            System.out.println("nothing is asked of [" + sentence + "]");
        }
        rightAhead = right + wrong;
    }

    static void is(String call, long got, long want) {
        if (got == want) {
            right++;
            return;
        }
        wrong++;
        if (wrong <= 50) {
            System.out.println(call + " answered " + got + ", due is " + want + " [" + sentence + "]");
        }
    }

    static void is(String call, boolean got, boolean want) {
        is(call, got ? 1 : 0, want ? 1 : 0);
    }

    static void holds(String what, boolean so) {
        is(what, so, true);
    }

    /** What lies there is all of these numbers and no more. */
    static void lie(String call, WeatherWages x, int... numbers) {
        is(call + ": about(13)", x.about(13), numbers.length);
        for (int i = 0; i < numbers.length; i++) {
            is(call + ": lies(" + i + ")", x.lies(i), numbers[i]);
        }
        is(call + ": lies(" + numbers.length + ")", x.lies(numbers.length), WeatherWages.NONE);
        is(call + ": lies(-1)", x.lies(-1), WeatherWages.NONE);
    }

    static void end() {
        endSentence();
        System.out.println((sentences == 0 ? "" : sentences + " sentences, ") + right + " right, " + wrong + " wrong");
        if (wrong != 0 || right == 0) {
            System.exit(1);
        }
    }
}
