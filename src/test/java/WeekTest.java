/** Section 2 of the terms and promise 15: a WEEK. */
public final class WeekTest {
    public static void main(String[] args) {
        seed();
        onlyLooseMen();
        byNumber();
        hourOfTheRest();
        emptyPurse();
        oneHourThatLeaks();
        whateverHoursTells();
        withoutKinds();
        thenCrops();
        thenNothing();
        wages();
        growths();
        anAct();
        Due.end();
    }

    private static int next(int seed) {
        return (seed * 137 + 71) % 1000;
    }

    private static void seed() {
        Due.says("T2", "a WEEK: of each loose MAN, by number, the SEED (draw, at first) becomes its 137-fold and 71 more, "
            + "modulo 1,000,");
        for (int draw : new int[] {0, 1, 7, 500, 998, 999}) {
            WeatherWages x = Mills.of("kind a;man m crop 0 loose;draw " + draw + ";");
            Due.is("about(5) at first", x.about(5), draw);
            int seed = draw;
            for (int week = 0; week < 20; week++) {
                x.week();
                seed = next(seed);
                Due.is("about(5) of draw " + draw, x.about(5), seed);
            }
        }
        WeatherWages five = Mills.of("man m crop 0 loose;man n crop 0 loose;man o crop 0 loose;man p crop 0 loose;"
            + "man q crop 0 loose;draw 3;");
        five.week();
        Due.is("about(5) of five", five.about(5), next(next(next(next(next(3))))));
    }

    private static void onlyLooseMen() {
        WeatherWages none = Mills.of("kind a;man m crop 0;man n crop 0;purse m a 5;draw 17;");
        none.week();
        Due.is("about(5), nobody loose", none.about(5), 17);
        Due.is("purse(0, 0), nobody loose", none.purse(0, 0), 5);
        WeatherWages last = Mills.of("kind a;man m crop 0;man n crop 0 loose;purse m a 5;purse n a 5;draw 17;");
        last.week();
        Due.is("about(5), one loose", last.about(5), next(17));
        Due.is("purse(0, 0)", last.purse(0, 0), 5);
        Due.is("purse(1, 0)", last.purse(1, 0), 4);
    }

    /** Draw 1: seeds 208, 567, 750: an hour of a, of b, of a. */
    private static void byNumber() {
        WeatherWages x = Mills.of("kind a;kind b;man m crop 0 loose;man n crop 0;man o crop 0 loose;purse m a 5;purse m b 5;"
            + "purse o a 5;purse o b 5;draw 1;");
        x.week();
        Due.is("purse(0, 0)", x.purse(0, 0), 4);
        Due.is("purse(0, 1)", x.purse(0, 1), 5);
        Due.is("purse(2, 0)", x.purse(2, 0), 5);
        Due.is("purse(2, 1)", x.purse(2, 1), 4);
        x.week();
        Due.is("purse(0, 0)", x.purse(0, 0), 3);
        Due.is("purse(2, 1)", x.purse(2, 1), 3);
        Due.is("about(5)", x.about(5), next(next(next(next(1)))));
    }

    private static void hourOfTheRest() {
        Due.says("T2", "and an hour of the KIND of its rest by how many KINDS there are, if his purse has one, is spent "
            + "over his plot");
        String[] kinds = {"kind a;", "kind a;kind b;", "kind a;kind b;kind c;"};
        for (int count = 1; count <= 3; count++) {
            String text = kinds[count - 1] + "man m crop 0;man n crop 0 loose;";
            for (int kind = 0; kind < count; kind++) {
                text += "purse n " + "abc".charAt(kind) + " 50;";
            }
            WeatherWages x = Mills.of(text + "draw 5;grow first * 2 + second * 3 + third * 5;");
            int seed = 5;
            int[] left = {50, 50, 50};
            int[] growth = {2, 3, 5};
            for (int week = 0; week < 12; week++) {
                seed = next(seed);
                left[seed % count]--;
                Due.is("week() of " + count + " kinds", x.week(), growth[seed % count]);
                for (int kind = 0; kind < count; kind++) {
                    Due.is("purse(1, " + kind + ")", x.purse(1, kind), left[kind]);
                }
            }
        }
    }

    /** Draw 1 and two kinds: a, b, a, b, a. */
    private static void emptyPurse() {
        WeatherWages x = Mills.of("kind a;kind b;man m crop 9 loose;man n crop 9;purse m b 1;purse n a 9;draw 1;"
            + "grow first + second * 4;");
        Due.is("week() without an hour of a", x.week(), 0);
        Due.is("about(5) goes on", x.about(5), next(1));
        Due.is("purse(0, 1)", x.purse(0, 1), 1);
        Due.is("week() with an hour of b", x.week(), 4);
        Due.is("purse(0, 1)", x.purse(0, 1), 0);
        x.week();
        Due.is("week() without an hour", x.week(), 0);
        Due.is("purse(0, 0)", x.purse(0, 0), 0);
        Due.is("purse(0, 1)", x.purse(0, 1), 0);
        Due.is("purse(1, 0)", x.purse(1, 0), 9);
        WeatherWages paid = Mills.of("kind a;man m crop 0 loose;pay m a 1;");
        Due.is("week() ahead of wages", paid.week(), 0);
        Due.is("purse(0, 0)", paid.purse(0, 0), 1);
        Due.is("week() behind wages", paid.week(), 1);
        Due.is("purse(0, 0)", paid.purse(0, 0), 1);
        WeatherWages both = Mills.of("kind a;kind b;man m crop 0;man n crop 0 loose;purse n a 1;purse m a 5;draw 1;");
        Due.is("week() with one hour", both.week(), 1);
        Due.is("purse(1, 0)", both.purse(1, 0), 0);
        Due.is("purse(1, 1)", both.purse(1, 1), 0);
        Due.is("purse(0, 0)", both.purse(0, 0), 5);
    }

    private static void oneHourThatLeaks() {
        WeatherWages x = Mills.of("kind a;man m crop 0;man n crop 0 loose;man o crop 0;purse n a 9;hedge m 0;hedge n 1;");
        Due.is("week()", x.week(), 2);
        Due.is("man(0, 0)", x.man(0, 0), 1);
        Due.is("man(1, 0)", x.man(1, 0), 1);
        Due.is("man(2, 0)", x.man(2, 0), 0);
        Due.is("purse(1, 0)", x.purse(1, 0), 8);
        WeatherWages back = Mills.of("kind a;man m crop 0 loose;man n crop 0 loose;purse m a 9;purse n a 9;hedge m 0;");
        Due.is("week(), all spent ahead of growth", back.week(), 4);
        Due.is("man(0, 0)", back.man(0, 0), 2);
    }

    private static void whateverHoursTells() {
        Due.says("T2", "(whatever hours tells;");
        WeatherWages x = Mills.of("kind a;man m crop 0 loose;purse m a 9;hours 1;");
        x.spend(0, 0, 1);
        Due.is("left(0)", x.left(0), 0);
        Due.is("week()", x.week(), 2);
        Due.is("purse(0, 0)", x.purse(0, 0), 7);
        Due.is("left(0) behind it", x.left(0), 1);
    }

    private static void withoutKinds() {
        Due.says("T2", "without KINDS the SEED goes on alone);");
        WeatherWages x = Mills.of("man l crop 0 loose;man m crop 0;man n crop 0 loose;draw 999;grow 3;");
        Due.is("week()", x.week(), 9);
        Due.is("about(5)", x.about(5), next(next(999)));
        Due.is("man(0, 1)", x.man(0, 1), 0);
        Due.is("man(2, 0)", x.man(2, 0), 3);
    }

    private static void thenCrops() {
        Due.says("T2", "then crops are more by GROWTH (0 .. 99),");
        WeatherWages x = Mills.of("man m crop 79;man n crop 80;man o crop 99;man p crop 98;grow 20;");
        x.week();
        int[] due = {99, 99, 99, 99};
        for (int man = 0; man < 4; man++) {
            Due.is("man(" + man + ", 0) of more", x.man(man, 0), due[man]);
        }
        WeatherWages y = Mills.of("man m crop 20;man n crop 19;man o crop 0;man p crop 21;grow 0 - 20;");
        y.week();
        int[] left = {0, 0, 0, 1};
        for (int man = 0; man < 4; man++) {
            Due.is("man(" + man + ", 0) of less", y.man(man, 0), left[man]);
        }
        WeatherWages z = Mills.of("man m crop 50;man n crop 60;grow 3 - plot * 5;");
        z.week();
        Due.is("man(0, 0)", z.man(0, 0), 53);
        Due.is("man(1, 0)", z.man(1, 0), 58);
    }

    private static void thenNothing() {
        Due.says("T2", "nothing is OVER plots, nothing SPENT, wages are paid, the week goes up by 1.");
        WeatherWages x = Mills.of("kind a;kind b;kind c;man m crop 1;man n crop 1;purse m a 9;purse m b 9;purse n c 9;"
            + "hedge m 0;pay n a 2;hours 5;");
        x.spend(0, 0, 2);
        x.spend(0, 1, 3);
        x.spend(1, 2, 4);
        Due.is("week()", x.week(), 18);
        for (int man = 0; man < 2; man++) {
            for (int kind = 0; kind < 3; kind++) {
                Due.is("over(" + man + ", " + kind + ")", x.over(man, kind), 0);
            }
            Due.is("man(" + man + ", 1)", x.man(man, 1), 0);
            Due.is("left(" + man + ")", x.left(man), 5);
        }
        Due.is("purse(1, 0)", x.purse(1, 0), 2);
        Due.is("about(4)", x.about(4), 1);
        Due.is("week() with nothing over", x.week(), 0);
        Due.is("about(4)", x.about(4), 2);
    }

    private static void wages() {
        String five = "kind a;kind b;kind c;man m crop 1;man n crop 1;man o crop 1;man p crop 1;man q crop 1;";
        StringBuilder text = new StringBuilder(five);
        for (int man = 0; man < 5; man++) {
            for (int kind = 0; kind < 3; kind++) {
                text.append("pay " + "mnopq".charAt(man) + " " + "abc".charAt(kind) + " " + (man + kind) + ";");
            }
        }
        WeatherWages x = Mills.of(text.append("purse m a 60;purse q c 60;").toString());
        for (int week = 1; week <= 8; week++) {
            x.week();
            for (int man = 0; man < 5; man++) {
                for (int kind = 0; kind < 3; kind++) {
                    int first = man == 0 && kind == 0 || man == 4 && kind == 2 ? 60 : 0;
                    Due.is("purse(" + man + ", " + kind + ")", x.purse(man, kind), Math.min(99, first + week * (man + kind)));
                }
            }
        }
    }

    private static void growths() {
        Due.says("15", "A WEEK: all GROWTHS together;");
        WeatherWages x = Mills.of("kind a;kind b;man m crop 90;man n crop 5;purse m a 9;purse m b 2;pay m a 9;"
            + "pay n b 4;hedge m 0;grow first * 4 - plot * 30 + week;");
        x.spend(0, 0, 3);
        Due.is("man(0, 2)", x.man(0, 2), 12);
        Due.is("man(1, 2)", x.man(1, 2), -18);
        Due.is("week()", x.week(), -6);
        Due.is("man(0, 0)", x.man(0, 0), 99);
        Due.is("man(1, 0)", x.man(1, 0), 0);
        Due.is("purse(0, 0)", x.purse(0, 0), 15);
        Due.is("purse(1, 1)", x.purse(1, 1), 4);
        Due.is("week()", x.week(), -19);
        Due.is("week() without men", new WeatherWages().week(), 0);
        Due.is("week() of five", Mills.of("man m crop 99;man n crop 99;man o crop 99;man p crop 99;man q crop 99;"
            + "grow 30;").week(), 100);
        Due.is("week() of five that lose", Mills.of("man m crop 0;man n crop 0;man o crop 0;man p crop 0;man q crop 0;"
            + "grow 0 - 30;").week(), -100);
    }

    private static void anAct() {
        Due.says("15", "(An ACT.)");
        WeatherWages x = Mills.of("kind a;man m crop 10 loose;purse m a 5;pay m a 2;draw 6;grow first * 3;");
        x.spend(0, 0, 2);
        Due.is("week()", x.week(), 9);
        Due.is("about(7)", x.about(7), 2);
        Due.is("undo()", x.undo(), true);
        int[] due = {10, 2, 6, 3, 2, 10, 1};
        for (int what = 0; what < due.length; what++) {
            Due.is("man(0, " + what + ")", x.man(0, what), due[what]);
        }
        Due.is("about(4)", x.about(4), 0);
        Due.is("about(5)", x.about(5), 6);
        Due.is("redo()", x.redo(), true);
        Due.is("man(0, 0)", x.man(0, 0), 19);
        Due.is("purse(0, 0)", x.purse(0, 0), 4);
        Due.is("about(4)", x.about(4), 1);
        Due.is("about(5)", x.about(5), next(6));
    }
}
