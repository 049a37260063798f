/** Promises 12 to 17: acts, undone and done again. */
public final class ActsTest {
    private static final String MILL = "kind a;kind b;man m crop 10;man n crop 20;man o crop 30;"
        + "purse m a 9;purse m b 1;purse n a 60;purse o b 60;hedge m 5;hedge n 0;hours 8;";

    public static void main(String[] args) {
        spend();
        leak();
        give();
        change();
        week();
        loose();
        looseWithoutKinds();
        looseWithOneKind();
        weeksAtMost();
        undo();
        redo();
        forty();
        fortyForgotten();
        Due.end();
    }

    private static void spend() {
        WeatherWages x = Mills.of(MILL);
        Due.is("spend(0, 0, 0)", x.spend(0, 0, 0), -1);
        Due.is("spend(0, 0, -1)", x.spend(0, 0, -1), -1);
        Due.is("spend(0, 0, 9)", x.spend(0, 0, 9), -1);
        Due.is("spend(0, 1, 2)", x.spend(0, 1, 2), -1);
        Due.is("spend(3, 0, 1)", x.spend(3, 0, 1), -1);
        Due.is("spend(-1, 0, 1)", x.spend(-1, 0, 1), -1);
        Due.is("spend(0, 2, 1)", x.spend(0, 2, 1), -1);
        Due.is("spend(0, -1, 1)", x.spend(0, -1, 1), -1);
        Due.is("about(7)", x.about(7), 0);
        Due.is("all(0, 1)", x.all(0, 1), 0);
        Due.is("spend(0, 0, 5)", x.spend(0, 0, 5), 5);
        Due.is("purse(0, 0)", x.purse(0, 0), 4);
        Due.is("spend(0, 0, 4)", x.spend(0, 0, 4), -1);
        Due.is("spend(0, 0, 2)", x.spend(0, 0, 2), 7);
        Due.is("spend(0, 1, 1)", x.spend(0, 1, 1), 1);
        Due.is("left(0)", x.left(0), 0);
        Due.is("spend(0, 0, 1)", x.spend(0, 0, 1), -1);
        Due.is("spend(1, 0, 8)", x.spend(1, 0, 8), 11);
        Due.is("about(7)", x.about(7), 4);
    }

    /** What comes through a hedge is cut each time anew. */
    private static void leak() {
        WeatherWages x = Mills.of(MILL);
        x.spend(0, 0, 1);
        x.spend(0, 0, 1);
        Due.is("over(1, 0) behind 1 and 1", x.over(1, 0), 0);
        x.spend(0, 0, 3);
        Due.is("over(1, 0) behind 3", x.over(1, 0), 1);
        Due.is("over(2, 0)", x.over(2, 0), 0);
        Due.is("spend(1, 0, 5)", x.spend(1, 0, 5), 6);
        Due.is("over(0, 0)", x.over(0, 0), 7);
        Due.is("over(2, 0)", x.over(2, 0), 5);
        Due.is("spend(2, 1, 1)", x.spend(2, 1, 1), 1);
        Due.is("over(1, 1)", x.over(1, 1), 1);
        Due.is("over(0, 1)", x.over(0, 1), 0);
        WeatherWages y = Mills.of("kind a;man m crop 1;man n crop 1;purse n a 9;hedge n 0;");
        y.spend(1, 0, 5);
        Due.is("over(0, 0) behind a hedge of 10", y.over(0, 0), 0);
    }

    private static void give() {
        WeatherWages x = Mills.of(MILL);
        Due.is("give(0, 0, 0, 1)", x.give(0, 0, 0, 1), -1);
        Due.is("give(0, 1, 0, 0)", x.give(0, 1, 0, 0), -1);
        Due.is("give(0, 1, 0, -1)", x.give(0, 1, 0, -1), -1);
        Due.is("give(0, 1, 0, 10)", x.give(0, 1, 0, 10), -1);
        Due.is("give(0, 1, 0, 100)", x.give(0, 1, 0, 100), -1);
        Due.is("give(0, 3, 0, 1)", x.give(0, 3, 0, 1), -1);
        Due.is("give(3, 0, 0, 1)", x.give(3, 0, 0, 1), -1);
        Due.is("give(-1, 0, 0, 1)", x.give(-1, 0, 0, 1), -1);
        Due.is("give(0, -1, 0, 1)", x.give(0, -1, 0, 1), -1);
        Due.is("give(0, 1, 2, 1)", x.give(0, 1, 2, 1), -1);
        Due.is("give(0, 1, -1, 1)", x.give(0, 1, -1, 1), -1);
        Due.is("about(7)", x.about(7), 0);
        Due.is("give(0, 1, 0, 9)", x.give(0, 1, 0, 9), 69);
        Due.is("purse(0, 0)", x.purse(0, 0), 0);
        Due.is("give(1, 2, 0, 60)", x.give(1, 2, 0, 60), 60);
        Due.is("give(1, 2, 0, 9)", x.give(1, 2, 0, 9), 69);
        Due.is("left(0)", x.left(0), 8);
        WeatherWages y = Mills.of("kind a;man m crop 1;man n crop 1;purse m a 60;purse n a 60;pay m a 9;");
        for (int week = 0; week < 5; week++) {
            y.week();
        }
        Due.is("purse(0, 0) paid", y.purse(0, 0), 99);
        Due.is("give(1, 0, 0, 7)", y.give(1, 0, 0, 7), 99);
        Due.is("purse(1, 0)", y.purse(1, 0), 53);
        Due.is("give(0, 1, 0, 99)", y.give(0, 1, 0, 99), 99);
        Due.is("purse(0, 0)", y.purse(0, 0), 0);
    }

    private static void change() {
        WeatherWages x = Mills.of("kind a;kind b;kind c;man m crop 1;purse m a 7;purse m b 60;rate a 3 for b 9;"
            + "rate b 2 for c 1;");
        Due.is("change(0, 1, 0)", x.change(0, 1, 0), -1);
        Due.is("change(0, 0, 0)", x.change(0, 0, 0), -1);
        Due.is("change(0, 0, 2)", x.change(0, 0, 2), -1);
        Due.is("change(0, 0, 3)", x.change(0, 0, 3), -1);
        Due.is("change(0, 3, 0)", x.change(0, 3, 0), -1);
        Due.is("change(0, -1, 1)", x.change(0, -1, 1), -1);
        Due.is("change(0, 1, -1)", x.change(0, 1, -1), -1);
        Due.is("change(1, 0, 1)", x.change(1, 0, 1), -1);
        Due.is("change(-1, 0, 1)", x.change(-1, 0, 1), -1);
        Due.is("about(7)", x.about(7), 0);
        Due.is("change(0, 0, 1)", x.change(0, 0, 1), 69);
        Due.is("purse(0, 0)", x.purse(0, 0), 4);
        Due.is("change(0, 0, 1)", x.change(0, 0, 1), 78);
        Due.is("change(0, 0, 1)", x.change(0, 0, 1), -1);
        Due.is("purse(0, 0)", x.purse(0, 0), 1);
        Due.is("change(0, 1, 2)", x.change(0, 1, 2), 1);
        Due.is("purse(0, 1)", x.purse(0, 1), 76);
        WeatherWages all = Mills.of("kind a;kind b;man m crop 1;purse m a 3;rate a 3 for b 9;");
        Due.is("change(0, 0, 1) of all", all.change(0, 0, 1), 9);
        Due.is("purse(0, 0) of all", all.purse(0, 0), 0);
        Due.is("about(7)", x.about(7), 3);
        WeatherWages y = Mills.of("kind a;kind b;man m crop 1;purse m a 50;purse m b 60;rate a 1 for b 9;");
        for (int n = 1; n <= 4; n++) {
            Due.is("change", y.change(0, 0, 1), 60 + 9 * n);
        }
        Due.is("change at 96", y.change(0, 0, 1), 99);
        Due.is("purse(0, 0)", y.purse(0, 0), 45);
    }

    private static void week() {
        WeatherWages x = Mills.of("kind a;kind b;man m crop 90;man n crop 5;purse m a 9;purse m b 2;pay m a 9;"
            + "pay n b 4;hedge m 0;grow first * 4 - plot * 30 + week;");
        x.spend(0, 0, 3);
        Due.is("man(0, 2)", x.man(0, 2), 12);
        Due.is("man(1, 2)", x.man(1, 2), -18);
        Due.is("week()", x.week(), -6);
        Due.is("man(0, 0)", x.man(0, 0), 99);
        Due.is("man(1, 0)", x.man(1, 0), 0);
        Due.is("man(0, 1)", x.man(0, 1), 0);
        Due.is("all(0, 1)", x.all(0, 1), 0);
        Due.is("purse(0, 0)", x.purse(0, 0), 15);
        Due.is("purse(0, 1)", x.purse(0, 1), 2);
        Due.is("purse(1, 1)", x.purse(1, 1), 4);
        Due.is("about(4)", x.about(4), 1);
        Due.is("about(5)", x.about(5), 0);
        Due.is("week()", x.week(), -19);
        Due.is("about(4)", x.about(4), 2);
        Due.is("about(7)", x.about(7), 3);
    }

    /** Draw 1: seeds 208, 567, 750, 821, 548. A seed's rest by two is the kind that goes off. */
    private static void loose() {
        WeatherWages x = Mills.of("kind a;kind b;man l crop 0 loose;man m crop 1;man n crop 2 loose;purse l a 1;"
            + "purse n a 3;purse n b 1;hedge m 0;hedge l 1;hours 1;draw 1;grow first + second * 3;");
        x.give(2, 1, 0, 1);
        x.spend(2, 0, 1);
        Due.is("week()", x.week(), 9);
        Due.is("about(5)", x.about(5), 567);
        Due.is("man(0, 0)", x.man(0, 0), 1);
        Due.is("man(1, 0)", x.man(1, 0), 5);
        Due.is("man(2, 0)", x.man(2, 0), 6);
        Due.is("purse(0, 0)", x.purse(0, 0), 0);
        Due.is("purse(2, 0)", x.purse(2, 0), 1);
        Due.is("purse(2, 1)", x.purse(2, 1), 0);
        Due.is("man(2, 1)", x.man(2, 1), 0);
        Due.is("week()", x.week(), 0);
        Due.is("about(5)", x.about(5), 821);
        Due.is("purse(2, 0)", x.purse(2, 0), 1);
        Due.is("undo()", x.undo(), true);
        Due.is("about(5)", x.about(5), 567);
        Due.is("redo()", x.redo(), true);
        Due.is("about(5)", x.about(5), 821);
    }

    private static void looseWithoutKinds() {
        WeatherWages x = Mills.of("man l crop 0 loose;man m crop 0 loose;draw 999;grow 3;");
        Due.is("week()", x.week(), 6);
        Due.is("about(5)", x.about(5), ((999 * 137 + 71) % 1000 * 137 + 71) % 1000);
        Due.is("man(1, 0)", x.man(1, 0), 3);
    }

    private static void looseWithOneKind() {
        WeatherWages x = Mills.of("kind a;man l crop 0 loose;purse l a 2;draw 8;");
        Due.is("week() 1", x.week(), 1);
        Due.is("week() 2", x.week(), 1);
        Due.is("week() 3", x.week(), 0);
        Due.is("purse(0, 0)", x.purse(0, 0), 0);
    }

    /** More calls than are promised, but told. */
    private static void weeksAtMost() {
        WeatherWages x = Mills.of("man l crop 0 loose;grow 1;");
        for (int n = 1; n <= 999; n++) {
            Due.is("week()", x.week(), 1);
        }
        int seed = x.about(5);
        Due.is("week() behind 999", x.week(), -1000000);
        Due.is("about(4)", x.about(4), 999);
        Due.is("about(5)", x.about(5), seed);
        x.undo();
        Due.is("about(4)", x.about(4), 998);
        Due.is("week()", x.week(), 1);
    }

    /** A ring of acts that has gone round is begun anew. */
    private static void fortyForgotten() {
        WeatherWages x = Mills.of("kind a;man m crop 0;man n crop 0;purse m a 60;");
        for (int n = 0; n < 47; n++) {
            x.give(0, 1, 0, 1);
        }
        x.image(0);
        x.back(0);
        x.give(0, 1, 0, 1);
        Due.is("undo()", x.undo(), true);
        Due.is("purse(0, 0)", x.purse(0, 0), 13);
        Due.is("undo()", x.undo(), false);
        Due.is("redo()", x.redo(), true);
        Due.is("purse(0, 0)", x.purse(0, 0), 12);
    }

    private static void undo() {
        WeatherWages x = Mills.of(MILL + "rate a 1 for b 1;draw 5;");
        x.spend(0, 0, 4);
        x.give(1, 2, 0, 3);
        x.change(0, 0, 1);
        x.week();
        Due.is("undo() of the week", x.undo(), true);
        Due.is("about(4)", x.about(4), 0);
        Due.is("man(0, 1)", x.man(0, 1), 4);
        Due.is("man(0, 0)", x.man(0, 0), 10);
        Due.is("purse(0, 1)", x.purse(0, 1), 2);
        Due.is("undo() of the change", x.undo(), true);
        Due.is("purse(0, 1)", x.purse(0, 1), 1);
        Due.is("purse(0, 0)", x.purse(0, 0), 5);
        Due.is("undo() of the gift", x.undo(), true);
        Due.is("purse(2, 0)", x.purse(2, 0), 0);
        Due.is("purse(1, 0)", x.purse(1, 0), 60);
        Due.is("undo() of the hours", x.undo(), true);
        Due.is("over(1, 0)", x.over(1, 0), 0);
        Due.is("purse(0, 0)", x.purse(0, 0), 9);
        Due.is("left(0)", x.left(0), 8);
        Due.is("undo() of nothing", x.undo(), false);
        Due.is("about(8)", x.about(8), 4);
    }

    private static void redo() {
        WeatherWages x = Mills.of(MILL);
        Due.is("redo() of nothing", x.redo(), false);
        x.spend(0, 0, 1);
        x.spend(0, 0, 2);
        x.spend(0, 0, 3);
        Due.is("redo() ahead of undo", x.redo(), false);
        x.undo();
        x.undo();
        Due.is("over(0, 0)", x.over(0, 0), 1);
        Due.is("redo()", x.redo(), true);
        Due.is("over(0, 0)", x.over(0, 0), 3);
        Due.is("spend(0, 0, 99)", x.spend(0, 0, 99), -1);
        Due.is("give(0, 0, 0, 1)", x.give(0, 0, 0, 1), -1);
        Due.is("redo() behind what was no act", x.redo(), true);
        Due.is("over(0, 0)", x.over(0, 0), 6);
        Due.is("redo()", x.redo(), false);
        x.undo();
        x.undo();
        Due.is("week()", x.week(), 1);
        Due.is("redo() behind an act", x.redo(), false);
        Due.is("about(7)", x.about(7), 2);
        Due.is("undo()", x.undo(), true);
        Due.is("undo()", x.undo(), true);
        Due.is("undo()", x.undo(), false);
    }

    private static void forty() {
        WeatherWages x = Mills.of("kind a;man m crop 0;");
        for (int n = 1; n <= 100; n++) {
            x.week();
            Due.is("about(7)", x.about(7), Math.min(n, 40));
        }
        for (int n = 1; n <= 40; n++) {
            Due.is("undo()", x.undo(), true);
            Due.is("about(4)", x.about(4), 100 - n);
            Due.is("about(8)", x.about(8), n);
        }
        Due.is("undo() 41", x.undo(), false);
        Due.is("about(4)", x.about(4), 60);
        for (int n = 1; n <= 30; n++) {
            Due.is("redo()", x.redo(), true);
        }
        Due.is("about(4)", x.about(4), 90);
        x.week();
        Due.is("about(7)", x.about(7), 31);
        Due.is("about(8)", x.about(8), 0);
        for (int n = 1; n <= 31; n++) {
            x.undo();
        }
        Due.is("undo()", x.undo(), false);
        Due.is("about(4)", x.about(4), 60);
    }
}
