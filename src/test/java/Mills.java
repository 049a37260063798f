/** Brings texts to the tape. */
final class Mills {
    /** No numbers of men, of kinds, of rows, whatever is told. */
    static final int[] WILD = {Integer.MIN_VALUE, -2, -1, 5, 6, 99, Integer.MAX_VALUE};

    private Mills() {
    }

    /** Feeds a text behind what is on the tape; the blanks that fill up the last feed are cut. */
    static void feed(WeatherWages x, String text) {
        int ahead = x.about(11);
        for (int from = 0; from < text.length(); from += 20) {
            int[] five = new int[5];
            for (int i = 0; i < 20; i++) {
                int c = from + i < text.length() ? text.charAt(from + i) & 255 : ' ';
                five[i / 4] = five[i / 4] << 8 | c;
            }
            x.feed(five[0], five[1], five[2], five[3], five[4]);
        }
        x.end(ahead + text.length());
    }

    static int tell(WeatherWages x, String text) {
        feed(x, text);
        return x.mill();
    }

    static WeatherWages of(String text) {
        WeatherWages x = new WeatherWages();
        int men = tell(x, text);
        if (men < 0) {
            Due.is("mill() of " + text + " has fault " + x.fault(0) + " at " + x.fault(1), men, 0);
        }
        return x;
    }

    /** All that acts change and what is told of each man, by some 10 calls for each of them. */
    static String state(WeatherWages x) {
        StringBuilder state = new StringBuilder();
        int men = x.about(0);
        int kinds = x.about(1);
        for (int man = 0; man < men; man++) {
            for (int what = 0; what < 7; what++) {
                state.append(x.man(man, what)).append(' ');
            }
            for (int kind = 0; kind < kinds; kind++) {
                state.append(x.purse(man, kind)).append(' ').append(x.over(man, kind)).append(' ');
            }
        }
        return state.append(x.about(4)).append(' ').append(x.about(5)).toString();
    }
}
