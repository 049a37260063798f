/** Promises 2 and 3: feed and end. */
public final class TapeTest {
    private static final int BLANKS = 0x20202020;

    public static void main(String[] args) {
        readmeExample();
        highestByteFirst();
        highBytes();
        full();
        ends();
        keepsOnTape();
        Due.end();
    }

    private static int blanks(WeatherWages x) {
        return x.feed(BLANKS, BLANKS, BLANKS, BLANKS, BLANKS);
    }

    private static void readmeExample() {
        WeatherWages x = new WeatherWages();
        Due.is("feed 1", x.feed(0x6b696e64, 0x2073756e, 0x3b6d616e, 0x20616e6e, 0x2063726f), 20);
        Due.is("feed 2", x.feed(0x7020333b, 0x70757273, 0x6520616e, 0x6e207375, 0x6e20343b), 40);
        Due.is("mill()", x.mill(), 1);
        Due.is("spend(0, 0, 2)", x.spend(0, 0, 2), 2);
        Due.is("week()", x.week(), 2);
        Due.is("man(0, 0)", x.man(0, 0), 5);
    }

    /** The place of what is no token tells where a byte came to lie. */
    private static void highestByteFirst() {
        for (int place = 0; place < 20; place++) {
            int[] five = {BLANKS, BLANKS, BLANKS, BLANKS, BLANKS};
            int shift = 24 - place % 4 * 8;
            five[place / 4] = BLANKS & ~(255 << shift) | '?' << shift;
            WeatherWages x = new WeatherWages();
            blanks(x);
            Due.is("feed", x.feed(five[0], five[1], five[2], five[3], five[4]), 40);
            Due.is("mill()", x.mill(), -1);
            Due.is("fault(0)", x.fault(0), 1);
            Due.is("fault(1)", x.fault(1), 20 + place);
        }
    }

    private static void highBytes() {
        WeatherWages x = new WeatherWages();
        Due.is("feed", x.feed(0x2020200a, 0xff202020, BLANKS, BLANKS, BLANKS), 20);
        Due.is("mill()", x.mill(), -1);
        Due.is("fault(0)", x.fault(0), 1);
        Due.is("fault(1)", x.fault(1), 4);
    }

    private static void full() {
        WeatherWages x = new WeatherWages();
        for (int n = 1; n <= 80; n++) {
            Due.is("feed", blanks(x), 20 * n);
        }
        Due.is("feed 81", x.feed(0x3f3f3f3f, 0, 0, 0, 0), -1);
        Due.is("about(11)", x.about(11), 1600);
        Due.is("end(1581)", x.end(1581), 1581);
        Due.is("feed at 1581", blanks(x), -1);
        Due.is("about(11)", x.about(11), 1581);
        Due.is("end(1580)", x.end(1580), 1580);
        Due.is("feed at 1580", blanks(x), 1600);
        Due.is("mill()", x.mill(), 0);
        Due.is("feed", blanks(x), 20);
    }

    private static void ends() {
        WeatherWages x = new WeatherWages();
        Due.is("end(0)", x.end(0), 0);
        Due.is("end(1)", x.end(1), -1);
        blanks(x);
        Due.is("end(-1)", x.end(-1), -1);
        Due.is("end(21)", x.end(21), -1);
        Due.is("end(min)", x.end(Integer.MIN_VALUE), -1);
        Due.is("end(max)", x.end(Integer.MAX_VALUE), -1);
        Due.is("about(11)", x.about(11), 20);
        Due.is("end(20)", x.end(20), 20);
        Due.is("end(7)", x.end(7), 7);
        Due.is("about(11)", x.about(11), 7);
        Due.is("end(8)", x.end(8), -1);
        Due.is("feed", blanks(x), 27);
    }

    private static void keepsOnTape() {
        WeatherWages x = new WeatherWages();
        Mills.feed(x, "kind a;ki");
        x.end(7);
        Mills.feed(x, "man m crop 4;");
        Due.is("about(11)", x.about(11), 20);
        Due.is("mill()", x.mill(), 1);
        Due.is("about(11)", x.about(11), 0);
        Due.is("about(1)", x.about(1), 1);
        Due.is("man(0, 0)", x.man(0, 0), 4);
    }
}
