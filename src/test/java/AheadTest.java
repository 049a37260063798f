/** Promises 25 to 27: will, thrive and saves. */
public final class AheadTest {
    public static void main(String[] args) {
        will();
        willOfLoose();
        thrive();
        thriveOfLoose();
        saves();
        Due.end();
    }

    private static void will() {
        WeatherWages x = Mills.of("kind a;man m crop 50;man n crop 5;purse m a 9;pay m a 1;"
            + "grow first * 5 - plot * 2 + week;");
        int crop = 50;
        for (int n = 0; n <= 30; n++) {
            Due.is("will(0, " + n + ")", x.will(0, n), crop);
            crop = Math.min(99, crop + Math.min(20, n));
        }
        Due.is("will(1, 1)", x.will(1, 1), 3);
        Due.is("will(1, 2)", x.will(1, 2), 2);
        Due.is("will(1, 4)", x.will(1, 4), 3);
        x.spend(0, 0, 2);
        Due.is("will(0, 1) with 2 over", x.will(0, 1), 60);
        Due.is("will(0, 2) with 2 over", x.will(0, 2), 61);
        Due.is("will(0, -1)", x.will(0, -1), -1);
        Due.is("will(0, 31)", x.will(0, 31), -1);
        Due.is("will(2, 1)", x.will(2, 1), -1);
        Due.is("will(-1, 1)", x.will(-1, 1), -1);
        x.week();
        Due.is("will(0, 1) behind a week", x.will(0, 1), 61);
        Due.is("about(4)", x.about(4), 1);
        Due.is("purse(0, 0)", x.purse(0, 0), 8);
    }

    /** Draw 1: seeds 208, 567, 750: an hour of a, of b, of a. */
    private static void willOfLoose() {
        WeatherWages x = Mills.of("kind a;kind b;man m crop 0 loose;man n crop 0;purse m a 1;pay m b 1;purse n a 9;"
            + "hedge m 0;draw 1;grow first + second * 3;");
        Due.is("will(0, 1)", x.will(0, 1), 1);
        Due.is("will(0, 2)", x.will(0, 2), 4);
        Due.is("will(0, 3)", x.will(0, 3), 4);
        Due.is("will(1, 3)", x.will(1, 3), 4);
        Due.is("about(5)", x.about(5), 1);
    }

    private static void thrive() {
        WeatherWages x = Mills.of("kind a;man m crop 1;man n crop 1;purse m a 5;purse n a 9;pay m a 1;hedge m 0;"
            + "hours 3;grow first - 2 * (plot = 1);");
        int[] due = {1, 4, 7, 8, 9, 10};
        for (int n = 0; n < due.length; n++) {
            Due.is("thrive(0, " + n + ")", x.thrive(0, n), due[n]);
        }
        Due.is("thrive(0, 12)", x.thrive(0, 12), 17);
        Due.is("thrive(1, 1)", x.thrive(1, 1), 2);
        x.spend(0, 0, 2);
        Due.is("thrive(0, 0)", x.thrive(0, 0), 1);
        Due.is("thrive(0, 1) with 2 spent", x.thrive(0, 1), 4);
        Due.is("thrive(0, 2) with 2 spent", x.thrive(0, 2), 7);
        Due.is("thrive(0, -1)", x.thrive(0, -1), -1);
        Due.is("thrive(0, 13)", x.thrive(0, 13), -1);
        Due.is("thrive(2, 1)", x.thrive(2, 1), -1);
        Due.is("thrive(-1, 1)", x.thrive(-1, 1), -1);
        Due.is("purse(0, 0)", x.purse(0, 0), 3);
        WeatherWages y = Mills.of("kind a;kind b;kind c;man m crop 1;man n crop 1;purse n a 1;purse n b 2;purse n c 3;"
            + "hours 4;grow first + second * 2 + third * 3;");
        Due.is("thrive(1, 1)", y.thrive(1, 1), 12);
        Due.is("thrive(1, 2)", y.thrive(1, 2), 15);
        x.best(1, 0);
        x.thrive(0, 2);
        Due.lie("thrive", x, 3);
    }

    /** A best that does not know what goes off by itself. Draw 1: seed 208, an hour of a. */
    private static void thriveOfLoose() {
        WeatherWages x = Mills.of("kind a;kind b;man m crop 20 loose;purse m a 3;draw 1;"
            + "grow 4 - (first - 2) * (first - 2);");
        Due.is("thrive(0, 1)", x.thrive(0, 1), 23);
        Due.is("will(0, 1)", x.will(0, 1), 23);
        WeatherWages y = Mills.of("kind a;man m crop 20 loose;purse m a 2;grow 4 - (first - 2) * (first - 2);");
        Due.is("thrive(0, 1), nothing left to go off", y.thrive(0, 1), 24);
        Due.is("thrive(0, 2)", y.thrive(0, 2), 24);
    }

    private static void saves() {
        WeatherWages x = Mills.of("kind a;kind b;man m crop 1;man n crop 1 loose;purse m a 3;pay m a 4;pay m b 1;"
            + "purse n a 5;pay n a 1;");
        Due.is("saves(0, 0, 0)", x.saves(0, 0, 0), 0);
        Due.is("saves(0, 0, 3)", x.saves(0, 0, 3), 0);
        Due.is("saves(0, 0, 4)", x.saves(0, 0, 4), 1);
        Due.is("saves(0, 0, 7)", x.saves(0, 0, 7), 1);
        Due.is("saves(0, 0, 8)", x.saves(0, 0, 8), 2);
        Due.is("saves(0, 0, 99)", x.saves(0, 0, 99), 24);
        Due.is("saves(0, 0, 100)", x.saves(0, 0, 100), -1);
        Due.is("saves(0, 0, -1)", x.saves(0, 0, -1), -1);
        Due.is("saves(0, 1, 60)", x.saves(0, 1, 60), 60);
        Due.is("saves(0, 1, 61)", x.saves(0, 1, 61), -1);
        Due.is("saves(1, 0, 65)", x.saves(1, 0, 65), 60);
        Due.is("saves(1, 0, 66)", x.saves(1, 0, 66), -1);
        Due.is("saves(1, 1, 1)", x.saves(1, 1, 1), -1);
        Due.is("saves(1, 1, 0)", x.saves(1, 1, 0), 0);
        Due.is("saves(0, 2, 0)", x.saves(0, 2, 0), -1);
        Due.is("saves(2, 0, 0)", x.saves(2, 0, 0), -1);
        Due.is("saves(-1, 0, 0)", x.saves(-1, 0, 0), -1);
        Due.is("saves(0, -1, 0)", x.saves(0, -1, 0), -1);
        x.spend(0, 0, 3);
        Due.is("saves(0, 0, 4) with none", x.saves(0, 0, 4), 1);
        Due.is("saves(0, 0, 5) with none", x.saves(0, 0, 5), 2);
    }
}
