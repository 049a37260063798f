/** Section 2 of the terms: plots in a row, what is over them, GROWTH. */
public final class GrowthTest {
    private static final String MILL = "kind a;kind b;kind c;man l crop 2;man m crop 7;"
        + "purse m a 9;purse m b 9;purse m c 9;hours 8;grow ";
    private static final String FIVE = "man m crop 1;man n crop 1;man o crop 1;man p crop 1;man q crop 1;";
    private static final String PURSES = "purse m a 60;purse n a 60;purse o a 60;purse p a 60;purse q a 60;hours 8;";

    public static void main(String[] args) {
        row();
        has();
        purseAtMost();
        over();
        leaks();
        leaksOfNobody();
        leaksOfEachSpending();
        growWord();
        untold();
        leaves();
        fewKinds();
        ints();
        byNothing();
        truths();
        bounds();
        Due.end();
    }

    private static void row() {
        Due.says("T2", "MEN's plots lie in a row, by number.");
        for (int man = 0; man < 5; man++) {
            WeatherWages x = Mills.of("kind a;" + FIVE + PURSES + "hedge m 0;hedge n 0;hedge o 0;hedge p 0;hedge q 0;");
            x.spend(man, 0, 3);
            for (int plot = 0; plot < 5; plot++) {
                boolean near = plot >= man - 1 && plot <= man + 1;
                Due.is("over(" + plot + ", 0) of " + man, x.over(plot, 0), near ? 3 : 0);
            }
        }
    }

    private static void has() {
        Due.says("T2", "Each MAN has a purse (hours of each KIND, 99 at most), a crop, hours of each KIND OVER his plot "
            + "this week (none at first), SPENT hours this week (none).");
        WeatherWages x = Mills.of("kind a;kind b;kind c;" + FIVE + "purse m a 1;purse m c 2;purse q b 3;");
        for (int man = 0; man < 5; man++) {
            Due.is("SPENT", x.man(man, 1), 0);
            Due.is("crop", x.man(man, 0), 1);
            for (int kind = 0; kind < 3; kind++) {
                Due.is("over(" + man + ", " + kind + ")", x.over(man, kind), 0);
            }
        }
        Due.is("purse(0, 0)", x.purse(0, 0), 1);
        Due.is("purse(0, 1)", x.purse(0, 1), 0);
        Due.is("purse(0, 2)", x.purse(0, 2), 2);
        Due.is("purse(4, 1)", x.purse(4, 1), 3);
        x.spend(4, 1, 2);
        Due.is("over(4, 1)", x.over(4, 1), 2);
        Due.is("man(4, 1)", x.man(4, 1), 2);
        Due.is("man(3, 1)", x.man(3, 1), 0);
        Due.is("over(4, 0)", x.over(4, 0), 0);
        x.week();
        Due.is("over(4, 1) in another week", x.over(4, 1), 0);
        Due.is("man(4, 1) in another week", x.man(4, 1), 0);
    }

    private static void purseAtMost() {
        WeatherWages x = Mills.of("kind a;kind b;man m crop 1;man n crop 1;purse m a 60;purse n a 60;purse m b 60;"
            + "pay m a 9;rate b 1 for a 9;");
        for (int week = 1; week <= 6; week++) {
            x.week();
            Due.is("purse(0, 0) in week " + week, x.purse(0, 0), Math.min(99, 60 + 9 * week));
        }
        Due.is("change(0, 1, 0)", x.change(0, 1, 0), 99);
        Due.is("give(1, 0, 0, 5)", x.give(1, 0, 0, 5), 99);
        Due.is("purse(0, 0)", x.purse(0, 0), 99);
        Due.is("purse(1, 0)", x.purse(1, 0), 55);
    }

    private static void over() {
        Due.says("T2", "n hours of a KIND spent over a plot are n more OVER it,");
        WeatherWages x = Mills.of("kind a;kind b;man m crop 1;man n crop 1;purse m a 9;purse m b 9;purse n a 9;hours 8;"
            + "hedge m 0;");
        x.spend(0, 0, 2);
        Due.is("over(0, 0)", x.over(0, 0), 2);
        x.spend(0, 0, 3);
        Due.is("over(0, 0)", x.over(0, 0), 5);
        Due.is("over(0, 1)", x.over(0, 1), 0);
        x.spend(0, 1, 1);
        Due.is("over(0, 1)", x.over(0, 1), 1);
        x.spend(1, 0, 8);
        Due.is("over(0, 0), the other one's besides", x.over(0, 0), 13);
        Due.is("over(1, 0)", x.over(1, 0), 13);
    }

    private static void leaks() {
        Due.says("T2", "and n times what 10 is more than the hedge between, by 10 (cut), OVER each neighbour's.");
        for (int hedge = 0; hedge <= 10; hedge++) {
            for (int n = 1; n <= 8; n++) {
                WeatherWages x = Mills.of("kind z;kind a;" + FIVE + PURSES + "hedge n " + hedge + ";hedge o "
                    + (10 - hedge) + ";hedge m 0;hedge p 0;");
                x.spend(2, 1, n);
                int[] due = {0, n * (10 - hedge) / 10, n, n * hedge / 10, 0};
                for (int plot = 0; plot < 5; plot++) {
                    Due.is("over(" + plot + ", 1) of " + n + " by " + hedge, x.over(plot, 1), due[plot]);
                    Due.is("over(" + plot + ", 0)", x.over(plot, 0), 0);
                }
            }
        }
    }

    /** Ahead of the first plot and behind the last one there is nobody, however low the hedge. */
    private static void leaksOfNobody() {
        for (int men = 1; men <= 5; men++) {
            String text = "kind a;kind b;kind c;" + FIVE.substring(0, 13 * men);
            for (int man = 0; man < men; man++) {
                String name = " " + "mnopq".charAt(man);
                text += "hedge" + name + " 0;purse" + name + " a 9;purse" + name + " b 9;purse" + name + " c 9;";
            }
            WeatherWages x = Mills.of(text + "hours 8;");
            for (int man = 0; man < men; man++) {
                int reached = 1 + (man > 0 ? 1 : 0) + (man < men - 1 ? 1 : 0);
                Due.is("man(" + man + ", 2) of " + men, x.man(man, 2), 0);
                Due.is("best(" + man + ", 0) of " + men, x.best(man, 0), 8);
                Due.is("good(" + man + ", 0) of " + men, x.good(man, 0), 8 * reached);
                Due.is("leaks(" + man + ") of " + men, x.leaks(man), 8 * (reached - 1));
                Due.is("thrive(" + man + ", 1) of " + men, x.thrive(man, 1), 9);
            }
            Due.is("rest() of " + men + ", 20 at most", x.rest(), men <= 2 ? 1 : 2);
            x.spend(men - 1, 2, 2);
            x.spend(0, 1, 1);
            Due.is("man(last, 2) of " + men, x.man(men - 1, 2), men <= 2 ? 3 : 2);
            Due.is("man(0, 2) of " + men, x.man(0, 2), men <= 2 ? 3 : 1);
            Due.is("all(2, 1) of " + men, x.all(2, 1), men == 1 ? 2 : 4);
            Due.is("all(1, 1) of " + men, x.all(1, 1), men == 1 ? 1 : 2);
            Due.is("all(0, 1) of " + men, x.all(0, 1), 0);
            Due.is("all(0, 0) of " + men, x.all(0, 0), 9 * men);
        }
    }

    /** What comes through a hedge is cut each time anew. */
    private static void leaksOfEachSpending() {
        WeatherWages x = Mills.of("kind a;" + FIVE + PURSES + "hedge m 5;hedge n 9;");
        x.spend(0, 0, 1);
        x.spend(0, 0, 1);
        Due.is("over(1, 0) behind 1 and 1", x.over(1, 0), 0);
        x.spend(0, 0, 3);
        Due.is("over(1, 0) behind 3", x.over(1, 0), 1);
        Due.is("over(0, 0)", x.over(0, 0), 5);
        x.spend(1, 0, 7);
        Due.is("over(1, 0)", x.over(1, 0), 8);
        Due.is("over(0, 0)", x.over(0, 0), 8);
        Due.is("over(2, 0)", x.over(2, 0), 0);
        x.spend(4, 0, 8);
        Due.is("over(3, 0) behind a hedge that is not told", x.over(3, 0), 0);
    }

    /** By first 3, second 2, third 1, crop 7, week 0, plot 1. */
    private static void growth(String formula, int due) {
        WeatherWages x = Mills.of(MILL + formula + ";");
        x.spend(1, 0, 3);
        x.spend(1, 1, 2);
        x.spend(1, 2, 1);
        Due.is("growth by " + formula, x.man(1, 2), due);
    }

    private static void growWord() {
        Due.says("T2", "GROWTH of a plot: what comes of grow");
        growth("first * 4 + second * 3 - third - plot", 16);
        growth("0", 0);
        growth("17", 17);
    }

    private static void untold() {
        Due.says("T2", "(all hours OVER it together, if it is not told)");
        WeatherWages x = Mills.of("kind a;kind b;kind c;man m crop 50;man n crop 1;purse m a 9;purse m b 9;purse m c 9;"
            + "hours 8;hedge m 0;");
        Due.is("man(0, 2)", x.man(0, 2), 0);
        x.spend(0, 0, 1);
        Due.is("man(0, 2)", x.man(0, 2), 1);
        x.spend(0, 1, 2);
        Due.is("man(0, 2)", x.man(0, 2), 3);
        x.spend(0, 2, 4);
        Due.is("man(0, 2)", x.man(0, 2), 7);
        Due.is("man(1, 2)", x.man(1, 2), 7);
        WeatherWages y = Mills.of("kind a;kind b;man m crop 1;man n crop 1;man o crop 1;hedge m 0;hedge n 0;hours 8;"
            + "purse m a 8;purse n b 8;purse o a 8;");
        y.spend(0, 0, 8);
        y.spend(1, 1, 8);
        y.spend(2, 0, 8);
        Due.is("man(1, 2), 20 at most", y.man(1, 2), 20);
        Due.is("man(0, 2)", y.man(0, 2), 16);
    }

    private static void leaves() {
        Due.says("T2", "by first, second, third (hours of KIND 0, 1, 2 OVER it;");
        growth("first", 3);
        growth("second", 2);
        growth("third", 1);
        Due.says("T2", "crop, week (0 at first), plot (its number;");
        growth("crop", 7);
        growth("week", 0);
        growth("plot", 1);
        WeatherWages x = Mills.of("kind a;" + FIVE + "grow week * 3 + plot - crop * 0;");
        for (int week = 0; week < 4; week++) {
            for (int man = 0; man < 5; man++) {
                Due.is("man(" + man + ", 2) in week " + week, x.man(man, 2), 3 * week + man);
            }
            x.week();
        }
        WeatherWages y = Mills.of("man m crop 3;grow crop;");
        int[] due = {3, 6, 12, 20, 20};
        for (int week = 0; week < due.length; week++) {
            Due.is("man(0, 2) in week " + week, y.man(0, 2), due[week]);
            y.week();
        }
    }

    private static void fewKinds() {
        Due.says("T2", "0 if there is no such KIND),");
        WeatherWages x = Mills.of("kind a;man m crop 5;purse m a 9;grow first + second * 2 + third * 3;");
        x.spend(0, 0, 4);
        Due.is("man(0, 2) of one kind", x.man(0, 2), 4);
        WeatherWages y = Mills.of("kind a;kind b;man m crop 5;purse m b 9;grow first + second * 2 + third * 3 + 1;");
        y.spend(0, 1, 4);
        Due.is("man(0, 2) of two kinds", y.man(0, 2), 9);
        Due.is("without kinds", Mills.of("man m crop 5;grow first + second + third + 6;").man(0, 2), 6);
        Due.is("without kinds, not told", Mills.of("man m crop 5;").man(0, 2), 0);
    }

    private static void ints() {
        Due.says("T2", "ints, wrapping;");
        growth("9999 * 9999 * 22 > 0", 0);
        growth("9999 * 9999 * 22 % 17", -7);
        growth("9999 * 9999 * 43 = 4172 * 1000 + 747", 1);
        growth("(4096 * 4096 * 128) < 0", 1);
        growth("4096 * 4096 * 128 + 4096 * 4096 * 128", 0);
        growth("4096 * 4096 * 128 - 1 > 0", 1);
        growth("0 - 4096 * 4096 * 128 < 0", 1);
        growth("(4096 * 4096 * 128) / (0 - 1) = 4096 * 4096 * 128", 1);
        growth("(4096 * 4096 * 128) % (0 - 1)", 0);
        growth("4096 * 4096 * 256", 0);
        growth("4096 * 4096 * 256 + 5", 5);
    }

    private static void byNothing() {
        Due.says("T2", "/ cut, % its rest, both by 0: 0;");
        growth("7 / 2", 3);
        growth("(0 - 7) / 2", -3);
        growth("7 / (0 - 2)", -3);
        growth("(0 - 7) / (0 - 2)", 3);
        growth("1 / 2", 0);
        growth("7 % 2", 1);
        growth("(0 - 7) % 2", -1);
        growth("7 % (0 - 4)", 3);
        growth("(0 - 7) % (0 - 4)", -3);
        growth("8 % 4", 0);
        growth("7 / 0", 0);
        growth("7 % 0", 0);
        growth("0 / 0", 0);
        growth("0 % 0", 0);
        growth("7 / 0 + 1", 1);
        growth("7 % 0 + 2", 2);
        growth("(0 - 7) / week - 3", -3);
        growth("7 % week + first", 3);
    }

    private static void truths() {
        Due.says("T2", "relations, and, or, not are 1 or 0, of what is not 0);");
        growth("2 < 3", 1);
        growth("3 < 3", 0);
        growth("4 < 3", 0);
        growth("0 - 1 < 0", 1);
        growth("3 > 3", 0);
        growth("4 > 3", 1);
        growth("2 > 3", 0);
        growth("3 = 3", 1);
        growth("3 = 4", 0);
        growth("4 = 3", 0);
        growth("7 and 5", 1);
        growth("7 and 0", 0);
        growth("0 and 7", 0);
        growth("0 and 0", 0);
        growth("2 and 4", 1);
        growth("0 - 1 and 0 - 2", 1);
        growth("0 or 5", 1);
        growth("5 or 0", 1);
        growth("5 or 6", 1);
        growth("0 or 0", 0);
        growth("0 or 0 - 3", 1);
        growth("not 5", 0);
        growth("not 0", 1);
        growth("not (0 - 1)", 0);
        growth("not not 5", 1);
        growth("(3 = 3) * 5 + (2 < 1) * 7 + (first or 0) * 3", 8);
        growth("first > second and second > third", 1);
        growth("first < second or second = third", 0);
    }

    private static void bounds() {
        Due.says("T2", "-20 at least, 20 at most.");
        growth("19", 19);
        growth("20", 20);
        growth("21", 20);
        growth("9999", 20);
        growth("9999 * 9999", 20);
        growth("0 - 19", -19);
        growth("0 - 20", -20);
        growth("0 - 21", -20);
        growth("0 - 9999 * 9999", -20);
        growth("4096 * 4096 * 128", -20);
        growth("4096 * 4096 * 128 - 1", 20);
        growth("(21 - 1) + (21 - 20)", 20);
        growth("30 - 15", 15);
    }
}
