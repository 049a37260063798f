/**
 * Promise 15 and section 3 of the terms, as late as they can be seen: an object is used for 512
 * calls, so a 999th week lies beyond what is promised, and only that no week ahead is refused
 * can be asked.
 */
public final class LateWeeksTest {
    private static final int CALLS = 512;

    public static void main(String[] args) {
        noneRefusedAhead();
        undoneLate();
        aheadOfTheLast();
        Due.end();
    }

    private static void noneRefusedAhead() {
        Due.says("15", "-1000000, doing nothing, behind 999 of them.");
        WeatherWages x = new WeatherWages();
        for (int n = 1; n < CALLS; n++) {
            Due.is("week " + n, x.week(), 0);
        }
        Due.is("about(4)", x.about(4), CALLS - 1);
        WeatherWages y = Mills.of("kind a;man l crop 0 loose;man m crop 50;purse m a 9;"
            + "grow 1 - (week > 400) * plot + first;");
        for (int n = 1; n <= 480; n++) {
            Due.is("week " + n + " of two", y.week(), n <= 401 ? 2 : 1);
        }
        Due.is("about(4)", y.about(4), 480);
        Due.is("man(0, 0)", y.man(0, 0), 99);
    }

    private static void undoneLate() {
        WeatherWages x = Mills.of("man m crop 0 loose;draw 6;grow week % 2;");
        int seed = 6;
        for (int n = 1; n <= 400; n++) {
            x.week();
            seed = (seed * 137 + 71) % 1000;
        }
        Due.is("about(5)", x.about(5), seed);
        Due.is("about(7)", x.about(7), 40);
        for (int n = 1; n <= 40; n++) {
            Due.is("undo()", x.undo(), true);
            Due.is("about(4)", x.about(4), 400 - n);
        }
        Due.is("undo() of the 41st", x.undo(), false);
        Due.is("redo()", x.redo(), true);
        Due.is("about(4)", x.about(4), 361);
        Due.is("week() again", x.week(), 1);
        Due.is("redo() behind it", x.redo(), false);
    }

    private static void aheadOfTheLast() {
        Due.says("T3", "What lies ahead goes on as told beyond the last one that can be done, too.)");
        WeatherWages x = Mills.of("kind a;man l crop 70;man m crop 50;purse m a 9;hours 2;"
            + "grow (week > 419) * (1 + first);");
        for (int n = 1; n <= 420; n++) {
            x.week();
        }
        for (int n = 0; n <= 30; n++) {
            Due.is("will(0, " + n + ") behind 420 weeks", x.will(0, n), Math.min(99, 70 + n));
            Due.is("will(1, " + n + ") behind 420 weeks", x.will(1, n), 50 + n);
        }
        for (int n = 0; n <= 4; n++) {
            Due.is("thrive(1, " + n + ") behind 420 weeks", x.thrive(1, n), 50 + 3 * n);
        }
        Due.is("thrive(1, 12) behind 420 weeks", x.thrive(1, 12), 50 + 12 + 9);
        Due.is("about(4)", x.about(4), 420);
    }
}
