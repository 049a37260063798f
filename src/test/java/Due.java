/** Counts the answers of a test that are not the ones that are due. */
final class Due {
    private static int right = 0;
    private static int wrong = 0;

    private Due() {
    }

    static void is(String call, long got, long want) {
        if (got == want) {
            right++;
            return;
        }
        wrong++;
        if (wrong <= 50) {
            System.out.println(call + " answered " + got + ", due is " + want);
        }
    }

    static void is(String call, boolean got, boolean want) {
        is(call, got ? 1 : 0, want ? 1 : 0);
    }

    static void holds(String what, boolean so) {
        is(what, so, true);
    }

    /** What lies there is all of these numbers and no more. */
    static void lie(String call, WeatherWages x, int... numbers) {
        is(call + ": about(13)", x.about(13), numbers.length);
        for (int i = 0; i < numbers.length; i++) {
            is(call + ": lies(" + i + ")", x.lies(i), numbers[i]);
        }
        is(call + ": lies(" + numbers.length + ")", x.lies(numbers.length), WeatherWages.NONE);
        is(call + ": lies(-1)", x.lies(-1), WeatherWages.NONE);
    }

    static void end() {
        System.out.println(right + " right, " + wrong + " wrong");
        if (wrong != 0 || right == 0) {
            System.exit(1);
        }
    }
}
