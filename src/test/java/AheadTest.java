/** Section 3 of the terms, promises 25 to 27: WILL, THRIVE and SAVES. */
public final class AheadTest {

    public static void main(String[] args) {
        nothingSpent();
        nothingBesides();
        butByLooseOnes();
        will();
        willRefused();
        bestAhead();
        bestOfEachWeek();
        bestOfLooseOnes();
        thrive();
        thriveRefused();
        wagesAlone();
        sixtyWeeks();
        saves();
        savesRefused();
        Due.end();
    }

    private static void nothingSpent() {
        Due.says("T3", "WILL: a crop behind n WEEKS, nothing spent but by loose ones.");
        WeatherWages x = Mills.of("kind a;man m crop 50;man n crop 5;purse m a 9;pay m a 1;"
            + "grow first * 5 - plot * 2 + week;");
        int crop = 50;
        for (int n = 0; n <= 30; n++) {
            Due.is("will(0, " + n + ")", x.will(0, n), crop);
            crop = Math.min(99, crop + Math.min(20, n));
        }
        Due.is("will(1, 1)", x.will(1, 1), 3);
        Due.is("will(1, 2)", x.will(1, 2), 2);
        Due.is("will(1, 4)", x.will(1, 4), 3);
        x.spend(0, 0, 2);
        Due.is("will(0, 1) with 2 over", x.will(0, 1), 60);
        Due.is("will(0, 2) with 2 over", x.will(0, 2), 61);
        x.week();
        Due.is("will(0, 1) behind a week", x.will(0, 1), 61);
        Due.is("about(4)", x.about(4), 1);
        Due.is("purse(0, 0)", x.purse(0, 0), 8);
    }

    private static void nothingBesides() {
        WeatherWages low = Mills.of("man m crop 30;man n crop 30;grow plot * 40 - 20 + (week = 2) * 40;");
        int[] falls = {30, 10, 0, 20, 0};
        int[] rises = {30, 50, 70, 90, 99};
        for (int n = 0; n < 5; n++) {
            Due.is("will(0, " + n + ")", low.will(0, n), falls[n]);
            Due.is("will(1, " + n + ")", low.will(1, n), rises[n]);
        }
    }

    /** Draw 1: seeds 208, 567, 750: an hour of a, of b, of a. */
    private static void butByLooseOnes() {
        WeatherWages x = Mills.of("kind a;kind b;man m crop 0 loose;man n crop 0;purse m a 1;pay m b 1;purse n a 9;"
            + "hedge m 0;draw 1;grow first + second * 3;");
        Due.is("will(0, 1)", x.will(0, 1), 1);
        Due.is("will(0, 2)", x.will(0, 2), 4);
        Due.is("will(0, 3)", x.will(0, 3), 4);
        Due.is("will(1, 3)", x.will(1, 3), 4);
        Due.is("about(5)", x.about(5), 1);
        Due.is("week()", x.week(), 2);
        Due.is("will(0, 1) behind a week", x.will(0, 1), 4);
        WeatherWages all = Mills.of("kind a;man m crop 0 loose;man n crop 0 loose;purse m a 3;purse n a 60;hours 1;");
        for (int n = 0; n <= 30; n++) {
            Due.is("will(0, " + n + ")", all.will(0, n), Math.min(3, n));
            Due.is("will(1, " + n + ")", all.will(1, n), n);
        }
    }

    private static void will() {
        Due.says("25", "WILL (n 0 .. 30);");
        WeatherWages x = Mills.of("man m crop 40;man n crop 7;grow 1;");
        Due.is("will(0, 0)", x.will(0, 0), 40);
        Due.is("will(1, 0)", x.will(1, 0), 7);
        Due.is("will(0, 1)", x.will(0, 1), 41);
        Due.is("will(0, 30)", x.will(0, 30), 70);
        Due.is("will(1, 30)", x.will(1, 30), 37);
    }

    private static void willRefused() {
        Due.says("25", "NONE if one can't be.");
        WeatherWages x = Mills.of("man m crop 40;man n crop 7;grow 1;");
        Due.is("will(0, -1)", x.will(0, -1), -1);
        Due.is("will(0, 31)", x.will(0, 31), -1);
        Due.is("will(0, min)", x.will(0, Integer.MIN_VALUE), -1);
        Due.is("will(0, max)", x.will(0, Integer.MAX_VALUE), -1);
        Due.is("will(2, 1)", x.will(2, 1), -1);
        for (int wild : Mills.WILD) {
            Due.is("will(" + wild + ", 0)", x.will(wild, 0), -1);
        }
        Due.is("will(0, 0) of nothing told", new WeatherWages().will(0, 0), -1);
    }

    private static void bestAhead() {
        Due.says("T3", "THRIVE: likewise, if the MAN spends his BEST ahead of each WEEK.");
        WeatherWages x = Mills.of("kind a;man m crop 1;man n crop 1;purse m a 5;purse n a 9;pay m a 1;hedge m 0;"
            + "hours 3;grow first - 2 * (plot = 1);");
        int[] due = {1, 4, 7, 8, 9, 10};
        for (int n = 0; n < due.length; n++) {
            Due.is("thrive(0, " + n + ")", x.thrive(0, n), due[n]);
        }
        Due.is("thrive(0, 12)", x.thrive(0, 12), 17);
        Due.is("thrive(1, 1)", x.thrive(1, 1), 2);
        x.spend(0, 0, 2);
        Due.is("thrive(0, 0) with 2 spent", x.thrive(0, 0), 1);
        Due.is("thrive(0, 1) with 2 spent", x.thrive(0, 1), 4);
        Due.is("thrive(0, 2) with 2 spent", x.thrive(0, 2), 7);
        Due.is("purse(0, 0)", x.purse(0, 0), 3);
        WeatherWages y = Mills.of("kind a;kind b;kind c;man m crop 1;man n crop 1;purse n a 1;purse n b 2;purse n c 3;"
            + "hours 4;grow first + second * 2 + third * 3;");
        Due.is("thrive(1, 1) of three kinds", y.thrive(1, 1), 12);
        Due.is("thrive(1, 2) of three kinds", y.thrive(1, 2), 15);
        WeatherWages own = Mills.of("kind a;man m crop 1;man n crop 40;purse m a 9;hours 2;hedge m 0;"
            + "grow first * (1 - 4 * plot);");
        Due.is("thrive(0, 1), whatever becomes of others", own.thrive(0, 1), 3);
        Due.is("thrive(0, 3), whatever becomes of others", own.thrive(0, 3), 7);
        y.best(1, 0);
        y.thrive(0, 2);
        Due.lie("thrive", y, 0, 1, 3);
    }

    private static void bestOfEachWeek() {
        WeatherWages x = Mills.of("kind a;man m crop 10;purse m a 20;hours 8;grow 4 - (first - week) * (first - week);");
        int[] crops = {10, 14, 18, 22, 26, 30, 34};
        for (int n = 0; n < crops.length; n++) {
            Due.is("thrive(0, " + n + "), week by week", x.thrive(0, n), crops[n]);
        }
        Due.is("thrive(0, 7), the purse is empty", x.thrive(0, 7), 34 + 4 - 1);
        WeatherWages wages = Mills.of("kind a;man m crop 0;purse m a 1;pay m a 2;hours 8;");
        Due.is("thrive(0, 3), wages behind each week", wages.thrive(0, 3), 1 + 2 + 2);
    }

    /** A BEST that does not know what goes off by itself. Draw 1: seed 208, an hour of a. */
    private static void bestOfLooseOnes() {
        WeatherWages x = Mills.of("kind a;kind b;man m crop 20 loose;purse m a 3;draw 1;"
            + "grow 4 - (first - 2) * (first - 2);");
        Due.is("thrive(0, 1)", x.thrive(0, 1), 23);
        Due.is("will(0, 1)", x.will(0, 1), 23);
        WeatherWages y = Mills.of("kind a;man m crop 20 loose;purse m a 2;grow 4 - (first - 2) * (first - 2);");
        Due.is("thrive(0, 1), nothing left to go off", y.thrive(0, 1), 24);
        Due.is("thrive(0, 2)", y.thrive(0, 2), 24);
        WeatherWages other = Mills.of("kind a;man m crop 0;man n crop 0 loose;purse m a 2;purse n a 5;hedge m 0;");
        Due.is("thrive(0, 1) by a loose neighbour", other.thrive(0, 1), 3);
        Due.is("thrive(1, 1) of the loose one", other.thrive(1, 1), 5);
    }

    private static void thrive() {
        Due.says("26", "THRIVE (n 0 .. 12);");
        WeatherWages x = Mills.of("kind a;man m crop 40;man n crop 7;purse n a 60;hours 1;grow 1 + first;");
        Due.is("thrive(0, 0)", x.thrive(0, 0), 40);
        Due.is("thrive(1, 0)", x.thrive(1, 0), 7);
        Due.is("thrive(1, 1)", x.thrive(1, 1), 9);
        Due.is("thrive(0, 12)", x.thrive(0, 12), 52);
        Due.is("thrive(1, 12)", x.thrive(1, 12), 31);
    }

    private static void thriveRefused() {
        Due.says("26", "NONE if one can't be.");
        WeatherWages x = Mills.of("kind a;man m crop 40;man n crop 7;");
        Due.is("thrive(0, -1)", x.thrive(0, -1), -1);
        Due.is("thrive(0, 13)", x.thrive(0, 13), -1);
        Due.is("thrive(0, 30)", x.thrive(0, 30), -1);
        Due.is("thrive(0, min)", x.thrive(0, Integer.MIN_VALUE), -1);
        Due.is("thrive(0, max)", x.thrive(0, Integer.MAX_VALUE), -1);
        Due.is("thrive(2, 1)", x.thrive(2, 1), -1);
        for (int wild : Mills.WILD) {
            Due.is("thrive(" + wild + ", 0)", x.thrive(wild, 0), -1);
        }
        Due.is("thrive(0, 0) of nothing told", new WeatherWages().thrive(0, 0), -1);
    }

    private static void wagesAlone() {
        Due.says("T3", "SAVES: the fewest WEEKS (60 at most) of wages alone by which his purse has so many hours of a KIND.");
        WeatherWages x = Mills.of("kind a;kind b;man m crop 1;man n crop 1 loose;purse m a 3;pay m a 4;pay m b 1;"
            + "purse n a 5;pay n a 1;purse n b 7;");
        Due.is("saves(0, 0, 4)", x.saves(0, 0, 4), 1);
        Due.is("saves(0, 0, 7)", x.saves(0, 0, 7), 1);
        Due.is("saves(0, 0, 8)", x.saves(0, 0, 8), 2);
        Due.is("saves(0, 0, 99)", x.saves(0, 0, 99), 24);
        Due.is("saves(1, 0, 25), a loose one's", x.saves(1, 0, 25), 20);
        Due.is("saves(1, 1, 7)", x.saves(1, 1, 7), 0);
        x.spend(0, 0, 3);
        Due.is("saves(0, 0, 4) with none", x.saves(0, 0, 4), 1);
        Due.is("saves(0, 0, 5) with none", x.saves(0, 0, 5), 2);
        x.week();
        Due.is("saves(0, 0, 5) behind a week", x.saves(0, 0, 5), 1);
    }

    private static void sixtyWeeks() {
        WeatherWages x = Mills.of("kind a;kind b;man m crop 1;man n crop 1;pay m b 1;purse n a 5;pay n a 1;purse n b 39;"
            + "pay n b 1;");
        Due.is("saves(0, 1, 59)", x.saves(0, 1, 59), 59);
        Due.is("saves(0, 1, 60)", x.saves(0, 1, 60), 60);
        Due.is("saves(0, 1, 61)", x.saves(0, 1, 61), -1);
        Due.is("saves(1, 0, 65)", x.saves(1, 0, 65), 60);
        Due.is("saves(1, 0, 66)", x.saves(1, 0, 66), -1);
        Due.is("saves(1, 1, 99)", x.saves(1, 1, 99), 60);
    }

    private static void saves() {
        Due.says("27", "SAVES (0 .. 99 hours; 0 WEEKS: he has them);");
        WeatherWages x = Mills.of("kind a;kind b;man m crop 1;man n crop 1;purse m a 3;pay m a 4;purse n b 60;pay n b 9;");
        Due.is("saves(0, 0, 0)", x.saves(0, 0, 0), 0);
        Due.is("saves(0, 0, 3)", x.saves(0, 0, 3), 0);
        Due.is("saves(0, 0, 4)", x.saves(0, 0, 4), 1);
        Due.is("saves(1, 0, 0)", x.saves(1, 0, 0), 0);
        Due.is("saves(1, 1, 60)", x.saves(1, 1, 60), 0);
        Due.is("saves(1, 1, 99)", x.saves(1, 1, 99), 5);
        for (int week = 0; week < 5; week++) {
            x.week();
        }
        Due.is("saves(1, 1, 99) of 99", x.saves(1, 1, 99), 0);
    }

    private static void savesRefused() {
        Due.says("27", "NONE if 60 are not enough, or one can't be.");
        WeatherWages x = Mills.of("kind a;kind b;man m crop 1;man n crop 1;purse m a 3;pay m b 1;pay n a 9;");
        Due.is("saves(0, 0, 4), no wages", x.saves(0, 0, 4), -1);
        Due.is("saves(0, 1, 61)", x.saves(0, 1, 61), -1);
        Due.is("saves(0, 0, -1)", x.saves(0, 0, -1), -1);
        Due.is("saves(1, 0, 99)", x.saves(1, 0, 99), 11);
        Due.is("saves(1, 0, 100)", x.saves(1, 0, 100), -1);
        Due.is("saves(0, 0, min)", x.saves(0, 0, Integer.MIN_VALUE), -1);
        Due.is("saves(1, 0, max)", x.saves(1, 0, Integer.MAX_VALUE), -1);
        Due.is("saves(2, 0, 0)", x.saves(2, 0, 0), -1);
        Due.is("saves(0, 2, 0)", x.saves(0, 2, 0), -1);
        Due.is("saves(0, 3, 0)", x.saves(0, 3, 0), -1);
        for (int wild : Mills.WILD) {
            Due.is("saves(" + wild + ", 0, 0)", x.saves(wild, 0, 0), -1);
            Due.is("saves(0, " + wild + ", 0)", x.saves(0, wild, 0), -1);
        }
        Due.is("saves(0, 0, 0) of nothing told", new WeatherWages().saves(0, 0, 0), -1);
    }
}
