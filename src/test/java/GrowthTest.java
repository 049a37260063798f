/** Section 2 of the terms: GROWTH, asked by promise 6. */
public final class GrowthTest {
    private static final String MILL = "kind a;kind b;kind c;man l crop 2;man m crop 7;"
        + "purse m a 9;purse m b 9;purse m c 9;hours 8;grow ";

    public static void main(String[] args) {
        leaves();
        signs();
        wrapping();
        truths();
        bounds();
        untold();
        fewKinds();
        Due.end();
    }

    /** By first 3, second 2, third 1, crop 7, week 0, plot 1. */
    private static void growth(String formula, int due) {
        WeatherWages x = Mills.of(MILL + formula + ";");
        x.spend(1, 0, 3);
        x.spend(1, 1, 2);
        x.spend(1, 2, 1);
        Due.is("growth by " + formula, x.man(1, 2), due);
    }

    private static void leaves() {
        growth("first", 3);
        growth("second", 2);
        growth("third", 1);
        growth("crop", 7);
        growth("week", 0);
        growth("plot", 1);
        growth("13", 13);
        growth("first * 4 + second * 3 - third - plot", 16);
        WeatherWages x = Mills.of(MILL + "week * 3 + plot;");
        x.week();
        x.week();
        Due.is("man(0, 2) in week 2", x.man(0, 2), 6);
        Due.is("man(1, 2) in week 2", x.man(1, 2), 7);
    }

    private static void signs() {
        growth("9 - 3 - 2", 4);
        growth("9 - (3 - 2)", 8);
        growth("1 + 2 * 3", 7);
        growth("(1 + 2) * 3", 9);
        growth("20 / 3 * 2", 12);
        growth("20 / (3 * 2)", 3);
        growth("20 % 7 * 2", 12);
        growth("7 / 2", 3);
        growth("(0 - 7) / 2", -3);
        growth("(0 - 7) % 2", -1);
        growth("7 % (0 - 4)", 3);
        growth("7 / 0 + 1", 1);
        growth("7 % 0 + 2", 2);
        growth("7 / week", 0);
    }

    private static void wrapping() {
        growth("9999 * 9999 * 22 > 0", 0);
        growth("9999 * 9999 * 22 % 17", -7);
        growth("9999 * 9999 * 43 = 4172 * 1000 + 747", 1);
        growth("(4096 * 4096 * 128) < 0", 1);
        growth("(4096 * 4096 * 128) / (0 - 1) = 4096 * 4096 * 128", 1);
        growth("(4096 * 4096 * 128) % (0 - 1)", 0);
        growth("(4096 * 4096 * 128 - 1) > 0", 1);
    }

    private static void truths() {
        growth("2 < 3", 1);
        growth("3 < 3", 0);
        growth("3 > 3", 0);
        growth("4 > 3", 1);
        growth("3 = 3", 1);
        growth("3 = 4", 0);
        growth("7 and 5", 1);
        growth("7 and 0", 0);
        growth("0 or 5", 1);
        growth("0 or 0", 0);
        growth("0 - 1 and 0 - 2", 1);
        growth("not 5", 0);
        growth("not 0", 1);
        growth("not not 5", 1);
        growth("not 1 = 0", 1);
        growth("not 5 + 1", 0);
        growth("1 or 1 and 0", 1);
        growth("(1 or 1) and 0", 0);
        growth("0 and 0 or 1", 1);
        growth("not 0 and 0", 0);
        growth("not 1 or 1", 1);
        growth("1 + 1 = 2", 1);
        growth("(1 = 1) * 5 + (2 < 1) * 7", 5);
        growth("first > second and second > third", 1);
    }

    private static void bounds() {
        growth("20", 20);
        growth("21", 20);
        growth("9999", 20);
        growth("0 - 20", -20);
        growth("0 - 21", -20);
        growth("0 - 9999", -20);
        growth("19", 19);
    }

    private static void untold() {
        WeatherWages x = Mills.of("kind a;kind b;kind c;man m crop 50;purse m a 9;purse m b 9;purse m c 9;hours 8;");
        Due.is("man(0, 2)", x.man(0, 2), 0);
        x.spend(0, 0, 1);
        x.spend(0, 1, 2);
        x.spend(0, 2, 4);
        Due.is("man(0, 2)", x.man(0, 2), 7);
    }

    private static void fewKinds() {
        WeatherWages x = Mills.of("kind a;man m crop 5;purse m a 9;grow first + second * 2 + third * 3;");
        x.spend(0, 0, 4);
        Due.is("man(0, 2)", x.man(0, 2), 4);
        Due.is("without kinds", Mills.of("man m crop 5;grow first + second + third + 6;").man(0, 2), 6);
    }
}
