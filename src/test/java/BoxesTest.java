/** Promises 40 and 41: image and back. */
public final class BoxesTest {
    public static void main(String[] args) {
        boxes();
        whatIsKept();
        whatStays();
        afterActs();
        Due.end();
    }

    private static WeatherWages mill() {
        return Mills.of("kind a;kind b;man m crop 10 loose;man n crop 20;purse m a 9;purse n b 9;pay m b 2;hedge m 0;"
            + "book 1;book 2;draw 9;grow first + 1;");
    }

    private static void boxes() {
        WeatherWages x = mill();
        for (int box = -1; box <= 3; box++) {
            Due.is("back(" + box + ") of nothing", x.back(box), -1);
        }
        Due.is("image(-1)", x.image(-1), -1);
        Due.is("image(3)", x.image(3), -1);
        Due.is("image(max)", x.image(Integer.MAX_VALUE), -1);
        Due.is("back(min)", x.back(Integer.MIN_VALUE), -1);
        Due.is("image(0)", x.image(0), 0);
        x.week();
        Due.is("image(2)", x.image(2), 1);
        x.week();
        x.week();
        Due.is("image(1)", x.image(1), 3);
        Due.is("back(0)", x.back(0), 0);
        Due.is("back(2)", x.back(2), 1);
        Due.is("about(4)", x.about(4), 1);
        Due.is("back(1)", x.back(1), 3);
        Due.is("image(0) over another", x.image(0), 3);
        Due.is("back(2)", x.back(2), 1);
        Due.is("back(0)", x.back(0), 3);
        Due.is("back(3)", x.back(3), -1);
    }

    private static void whatIsKept() {
        WeatherWages x = mill();
        x.week();
        x.spend(0, 0, 2);
        x.spend(1, 1, 3);
        int seed = x.about(5);
        x.image(1);
        x.week();
        x.week();
        x.give(1, 0, 1, 2);
        Due.is("back(1)", x.back(1), 1);
        Due.is("about(5)", x.about(5), seed);
        Due.is("man(0, 0)", x.man(0, 0), 12);
        Due.is("man(0, 1)", x.man(0, 1), 2);
        Due.is("man(1, 1)", x.man(1, 1), 3);
        Due.is("purse(1, 1)", x.purse(1, 1), 6);
        Due.is("over(1, 0)", x.over(1, 0), 2);
        Due.is("over(0, 1)", x.over(0, 1), 3);
        Due.is("about(4)", x.about(4), 1);
        x.spend(0, 0, 1);
        Due.is("back(1) again", x.back(1), 1);
        Due.is("man(0, 1) again", x.man(0, 1), 2);
    }

    private static void whatStays() {
        WeatherWages x = mill();
        x.image(0);
        x.least(0, 2, true);
        x.later(5);
        x.best(0, 0);
        Mills.feed(x, "kind");
        Due.is("back(0)", x.back(0), 0);
        Due.is("about(9)", x.about(9), 1);
        Due.is("about(10)", x.about(10), 5);
        Due.is("about(11)", x.about(11), 4);
        Due.lie("back", x, 6, 0);
    }

    private static void afterActs() {
        WeatherWages x = mill();
        x.week();
        x.week();
        x.undo();
        Due.is("image(0)", x.image(0), 1);
        Due.is("redo() behind an image", x.redo(), true);
        x.undo();
        Due.is("back(1), doing nothing", x.back(1), -1);
        Due.is("about(7)", x.about(7), 1);
        Due.is("about(8)", x.about(8), 1);
        Due.is("back(0)", x.back(0), 1);
        Due.is("about(7)", x.about(7), 0);
        Due.is("about(8)", x.about(8), 0);
        Due.is("undo()", x.undo(), false);
        Due.is("redo()", x.redo(), false);
        x.week();
        Due.is("undo()", x.undo(), true);
        Due.is("about(4)", x.about(4), 1);
    }
}
