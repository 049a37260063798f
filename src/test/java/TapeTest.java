/** Promises 2 and 3: feed and end. */
public final class TapeTest {
    private static final int BLANKS = 0x20202020;

    public static void main(String[] args) {
        twoFeeds();
        twentyBehind();
        highestFirst();
        wildNumbers();
        howMany();
        full();
        ends();
        endRefused();
        Due.end();
    }

    private static int blanks(WeatherWages x) {
        return x.feed(BLANKS, BLANKS, BLANKS, BLANKS, BLANKS);
    }

    private static void twentyBehind() {
        Due.says("2", "Twenty bytes come behind those on the TAPE,");
        WeatherWages x = new WeatherWages();
        Mills.feed(x, "kind a;man");
        Mills.feed(x, " m crop 4");
        Mills.feed(x, "2;");
        Due.is("about(11)", x.about(11), 21);
        Due.is("mill()", x.mill(), 1);
        Due.is("about(1)", x.about(1), 1);
        Due.is("man(0, 0)", x.man(0, 0), 42);
        Mills.feed(x, "kind a;ki");
        x.end(7);
        Mills.feed(x, "man m crop 4;");
        Due.is("about(11) behind end()", x.about(11), 20);
        Due.is("mill() behind end()", x.mill(), 1);
    }

    /** The place of what is no token tells where a byte came to lie. */
    private static void highestFirst() {
        Due.says("2", "of each number the highest first:");
        for (int place = 0; place < 20; place++) {
            int[] five = {BLANKS, BLANKS, BLANKS, BLANKS, BLANKS};
            int shift = 24 - place % 4 * 8;
            five[place / 4] = BLANKS & ~(255 << shift) | '?' << shift;
            WeatherWages x = new WeatherWages();
            blanks(x);
            x.feed(five[0], five[1], five[2], five[3], five[4]);
            Due.is("mill()", x.mill(), -1);
            Due.is("fault(0)", x.fault(0), 1);
            Due.is("fault(1)", x.fault(1), 20 + place);
        }
        WeatherWages x = new WeatherWages();
        x.feed(0x626f6f6b, 0x2037353b, BLANKS, BLANKS, BLANKS);
        Due.is("mill() of book 75;", x.mill(), 0);
        Due.is("about(2)", x.about(2), 1);
    }

    private static void wildNumbers() {
        int[] wild = {Integer.MIN_VALUE, -1, 0, Integer.MAX_VALUE, 0x2020200a, 0xff202020, 0x20ff2020};
        int[] due = {0, 0, 0, 0, 5, 0, 1};
        for (int i = 0; i < wild.length; i++) {
            WeatherWages x = new WeatherWages();
            Due.is("feed of " + wild[i], x.feed(wild[i], BLANKS | 0x00e00000, BLANKS, BLANKS, BLANKS), 20);
            Due.is("mill()", x.mill(), -1);
            Due.is("fault(0)", x.fault(0), 1);
            Due.is("fault(1)", x.fault(1), due[i]);
        }
    }

    private static void howMany() {
        Due.says("2", "how many there are;");
        WeatherWages x = new WeatherWages();
        Due.is("feed", blanks(x), 20);
        Due.is("feed", blanks(x), 40);
        x.end(7);
        Due.is("feed behind end(7)", blanks(x), 27);
        Due.is("about(11)", x.about(11), 27);
        x.mill();
        Due.is("feed behind mill()", blanks(x), 20);
    }

    private static void full() {
        Due.says("2", "NONE, and nothing comes, if there would be more than 1,600.");
        WeatherWages x = new WeatherWages();
        for (int n = 1; n <= 80; n++) {
            Due.is("feed", blanks(x), 20 * n);
        }
        Due.is("feed at 1600", x.feed(0x3f3f3f3f, 0, 0, 0, 0), -1);
        Due.is("about(11)", x.about(11), 1600);
        Due.is("end(1581)", x.end(1581), 1581);
        Due.is("feed at 1581", x.feed(0x3f3f3f3f, 0, 0, 0, 0), -1);
        Due.is("about(11)", x.about(11), 1581);
        Due.is("end(1580)", x.end(1580), 1580);
        Due.is("feed at 1580", blanks(x), 1600);
        Due.is("mill()", x.mill(), 0);
        Due.is("fault(0)", x.fault(0), 0);
        Due.is("feed", blanks(x), 20);
    }

    private static void ends() {
        Due.says("3", "The TAPE has its first n bytes: n;");
        WeatherWages x = new WeatherWages();
        Due.is("end(0) of nothing", x.end(0), 0);
        Mills.feed(x, "book 7;book 8;book 9");
        Due.is("end(20)", x.end(20), 20);
        Due.is("end(14)", x.end(14), 14);
        Due.is("about(11)", x.about(11), 14);
        Due.is("mill()", x.mill(), 0);
        Due.is("about(2)", x.about(2), 2);
        Mills.feed(x, "book 7;");
        Due.is("end(0)", x.end(0), 0);
        Due.is("about(11)", x.about(11), 0);
        Due.is("mill()", x.mill(), 0);
        Due.is("about(2)", x.about(2), 0);
    }

    private static void endRefused() {
        Due.says("3", "NONE, doing nothing, if it has not so many, or n is below 0.");
        WeatherWages x = new WeatherWages();
        Due.is("end(1) of nothing", x.end(1), -1);
        Mills.feed(x, "book 7;");
        for (int n : new int[] {8, 20, 1600, 1601, Integer.MAX_VALUE, -1, -7, Integer.MIN_VALUE}) {
            Due.is("end(" + n + ")", x.end(n), -1);
            Due.is("about(11)", x.about(11), 7);
        }
        x.end(3);
        Due.is("end(4) behind end(3)", x.end(4), -1);
        Due.is("about(11)", x.about(11), 3);
        x.end(0);
        Mills.feed(x, "book 7;");
        x.end(8);
        x.mill();
        Due.is("about(2)", x.about(2), 1);
    }

    /** kind sun;man ann crop 3;purse ann sun 4; */
    private static void twoFeeds() {
        WeatherWages x = new WeatherWages();
        Due.is("feed 1", x.feed(0x6b696e64, 0x2073756e, 0x3b6d616e, 0x20616e6e, 0x2063726f), 20);
        Due.is("feed 2", x.feed(0x7020333b, 0x70757273, 0x6520616e, 0x6e207375, 0x6e20343b), 40);
        Due.is("mill()", x.mill(), 1);
        Due.is("spend(0, 0, 2)", x.spend(0, 0, 2), 2);
        Due.is("week()", x.week(), 2);
        Due.is("man(0, 0)", x.man(0, 0), 5);
    }
}
