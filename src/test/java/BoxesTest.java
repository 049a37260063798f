/** Promises 40 and 41: image and back. */
public final class BoxesTest {
    private static final int[] WILD = {Integer.MIN_VALUE, -2, -1, 3, 4, 99, Integer.MAX_VALUE};

    public static void main(String[] args) {
        whatIsKept();
        threeBoxes();
        imageAnswers();
        imageRefused();
        asItWasKept();
        whatStays();
        noActs();
        backAnswers();
        backRefused();
        Due.end();
    }

    private static WeatherWages mill() {
        return Mills.of("kind a;kind b;man m crop 10 loose;man n crop 20;purse m a 9;purse n b 9;pay m b 2;hedge m 0;"
            + "book 1;book 2;draw 9;grow first + 1;");
    }

    private static void whatIsKept() {
        Due.says("40", "Purses, crops, what is OVER, SPENT, the week, the SEED are kept");
        WeatherWages x = mill();
        x.week();
        x.spend(0, 0, 2);
        x.spend(1, 1, 3);
        String kept = Mills.state(x);
        int seed = x.about(5);
        x.image(1);
        Due.holds("nothing is done by image()", Mills.state(x).equals(kept));
        x.week();
        x.week();
        x.give(1, 0, 1, 2);
        x.spend(0, 0, 1);
        Due.is("back(1)", x.back(1), 1);
        Due.is("the seed", x.about(5), seed);
        Due.is("the week", x.about(4), 1);
        Due.is("a crop", x.man(0, 0), 12);
        Due.is("SPENT", x.man(0, 1), 2);
        Due.is("SPENT", x.man(1, 1), 3);
        Due.is("a purse", x.purse(1, 1), 6);
        Due.is("what is over", x.over(1, 0), 2);
        Due.is("what is over", x.over(0, 1), 3);
        Due.holds("all is as it was", Mills.state(x).equals(kept));
    }

    private static void threeBoxes() {
        Due.says("40", "in a BOX 0 .. 2:");
        WeatherWages x = mill();
        String[] kept = new String[3];
        for (int box = 0; box < 3; box++) {
            x.spend(0, 0, 1);
            x.give(1, 0, 1, 1);
            kept[box] = Mills.state(x);
            Due.is("image(" + box + ")", x.image(box), box);
            x.week();
        }
        for (int box : new int[] {1, 0, 2, 2, 0, 1}) {
            Due.is("back(" + box + ")", x.back(box), box);
            Due.holds("all is as it was in box " + box, Mills.state(x).equals(kept[box]));
            x.week();
        }
        x.back(2);
        Due.is("image(0) over another", x.image(0), 2);
        x.back(1);
        x.back(0);
        Due.holds("the later one is kept", Mills.state(x).equals(kept[2]));
    }

    private static void imageAnswers() {
        Due.says("40", "the week;");
        WeatherWages x = new WeatherWages();
        Due.is("image(2) of nothing told", x.image(2), 0);
        for (int week = 1; week < 10; week++) {
            x.week();
            Due.is("image(0)", x.image(0), week);
        }
        x.undo();
        Due.is("image(0) behind undo()", x.image(0), 8);
    }

    private static void imageRefused() {
        Due.says("40", "NONE if there is none such.");
        WeatherWages x = mill();
        x.week();
        for (int box : WILD) {
            Due.is("image(" + box + ")", x.image(box), -1);
            Due.is("back(" + box + ")", x.back(box), -1);
        }
        for (int box = 0; box < 3; box++) {
            Due.is("back(" + box + ") of nothing", x.back(box), -1);
        }
    }

    private static void asItWasKept() {
        Due.says("41", "All is as it was kept");
        WeatherWages x = mill();
        x.spend(0, 0, 2);
        x.image(0);
        String kept = Mills.state(x);
        for (int times = 0; times < 3; times++) {
            x.spend(0, 0, 1);
            x.week();
            x.spend(1, 1, 4);
            x.back(0);
            Due.holds("all is as it was", Mills.state(x).equals(kept));
        }
        Due.is("week()", x.week(), 8);
        Due.is("undo()", x.undo(), true);
        Due.holds("a week is undone to what was kept", Mills.state(x).equals(kept));
        WeatherWages fresh = new WeatherWages();
        fresh.image(1);
        fresh.week();
        Due.is("back(1) of nothing told", fresh.back(1), 0);
        Due.is("about(4)", fresh.about(4), 0);
    }

    private static void whatStays() {
        WeatherWages x = mill();
        x.image(0);
        x.least(0, 2, true);
        x.later(5);
        x.best(0, 0);
        Mills.feed(x, "kind");
        Due.is("back(0)", x.back(0), 0);
        Due.is("about(9)", x.about(9), 1);
        Due.is("about(10)", x.about(10), 5);
        Due.is("about(11)", x.about(11), 4);
        Due.is("orders(5)", x.orders(5), 1);
        Due.lie("back", x, 6, 0);
    }

    private static void noActs() {
        Due.says("41", "(no ACTS are kept then):");
        WeatherWages x = mill();
        x.week();
        x.week();
        x.undo();
        Due.is("image(0)", x.image(0), 1);
        Due.is("about(7) behind image()", x.about(7), 1);
        Due.is("redo() behind image()", x.redo(), true);
        x.undo();
        Due.is("about(8)", x.about(8), 1);
        Due.is("back(0)", x.back(0), 1);
        Due.is("about(7)", x.about(7), 0);
        Due.is("about(8)", x.about(8), 0);
        Due.is("undo()", x.undo(), false);
        Due.is("redo()", x.redo(), false);
        Due.is("about(4)", x.about(4), 1);
        x.week();
        Due.is("about(7)", x.about(7), 1);
        Due.is("undo()", x.undo(), true);
        Due.is("about(4)", x.about(4), 1);
        Due.is("undo()", x.undo(), false);
    }

    private static void backAnswers() {
        Due.says("41", "the week;");
        WeatherWages x = mill();
        x.week();
        x.image(0);
        x.week();
        x.week();
        x.image(1);
        x.week();
        Due.is("back(0)", x.back(0), 1);
        Due.is("back(1)", x.back(1), 3);
    }

    private static void backRefused() {
        Due.says("41", "NONE, doing nothing, if nothing was.");
        WeatherWages x = mill();
        x.image(1);
        x.week();
        x.spend(0, 0, 1);
        x.undo();
        String state = Mills.state(x);
        for (int box : WILD) {
            Due.is("back(" + box + ")", x.back(box), -1);
        }
        Due.is("back(0)", x.back(0), -1);
        Due.is("back(2)", x.back(2), -1);
        Due.holds("nothing is done", Mills.state(x).equals(state));
        Due.is("about(7)", x.about(7), 1);
        Due.is("about(8)", x.about(8), 1);
        Due.is("redo()", x.redo(), true);
        Due.is("back(0) of a new object", new WeatherWages().back(0), -1);
    }
}
