/**
 * Promise 15 and section 3 of the terms, behind 999 weeks: more calls than an object is promised
 * for, but there is no other way to them.
 */
public final class LateWeeksTest {
    private static final int WEEKS = 999;

    public static void main(String[] args) {
        WeatherWages x = Mills.of("kind a;man l crop 0 loose;man m crop 50;purse m a 9;hours 2;"
            + "grow 1 - (week > 900) * plot + first;");
        for (int n = 1; n < WEEKS; n++) {
            x.week();
        }
        Due.says("15", "-1000000, doing nothing, behind 999 of them.");
        Due.is("about(4)", x.about(4), WEEKS - 1);
        Due.is("week() behind 998", x.week(), 1);
        int seed = x.about(5);
        Due.is("week() behind 999", x.week(), -1000000);
        Due.is("about(4)", x.about(4), WEEKS);
        Due.is("about(5)", x.about(5), seed);
        Due.is("about(7)", x.about(7), 40);
        x.undo();
        Due.is("about(4)", x.about(4), WEEKS - 1);
        Due.is("redo()", x.redo(), true);
        Due.is("week() behind 999", x.week(), -1000000);
        x.undo();
        Due.is("week() behind 998 again", x.week(), 1);
        Due.says("T3", "What lies ahead goes on as told beyond the last one that can be done, too.)");
        int crop = x.man(1, 0);
        Due.is("a full crop", crop, 99);
        Due.is("will(0, 0)", x.will(0, 0), 99);
        Mills.tell(x, "kind a;man l crop 70;man m crop 50;purse m a 9;hours 2;grow (week > 998) * (1 + first);");
        for (int n = 1; n <= WEEKS; n++) {
            x.week();
        }
        Due.is("week() behind 999", x.week(), -1000000);
        for (int n = 0; n <= 30; n++) {
            Due.is("will(0, " + n + ") behind 999 weeks", x.will(0, n), Math.min(99, 70 + n));
            Due.is("will(1, " + n + ") behind 999 weeks", x.will(1, n), 50 + n);
        }
        for (int n = 0; n <= 4; n++) {
            Due.is("thrive(1, " + n + ") behind 999 weeks", x.thrive(1, n), 50 + 3 * n);
        }
        Due.is("thrive(1, 12) behind 999 weeks", x.thrive(1, 12), 50 + 12 + 9);
        Due.end();
    }
}
