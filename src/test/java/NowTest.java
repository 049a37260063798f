/** Promises 6 to 11 and 42: what is now. */
public final class NowTest {
    private static final int NOWHERE = -1000000;
    private static final String MILL = "kind a;kind b;man m crop 10;man n crop 20 loose;man o crop 30;"
        + "purse m a 4;purse m b 3;purse n b 60;pay m a 2;pay m b 5;pay o b 9;hedge m 4;hedge n 0;"
        + "rate a 1 for b 2;book 1;book 2;book 3;book 4;hours 7;draw 123;grow first - second;";
    private static final int[] WILD = {Integer.MIN_VALUE, -2, -1, 3, 4, 5, 6, 99, Integer.MAX_VALUE};

    public static void main(String[] args) {
        man();
        manOfFive();
        manNone();
        purse();
        over();
        pay();
        all();
        allOfFullPurses();
        allNone();
        left();
        leftNone();
        about();
        aboutEach();
        aboutNone();
        Due.end();
    }

    private static void man() {
        Due.says("6", "Of a MAN what 0: his crop, 1: SPENT, 2: GROWTH now, 3: hours in his purse together, 4: wages together, "
            + "5: the hedge to the next one, 6: 1 if loose, else 0;");
        WeatherWages x = Mills.of(MILL);
        x.spend(0, 0, 3);
        int[][] due = {{10, 3, 3, 4, 7, 4, 0}, {20, 0, 1, 60, 0, 0, 1}, {30, 0, 0, 0, 9, 10, 0}};
        for (int man = 0; man < due.length; man++) {
            for (int what = 0; what < 7; what++) {
                Due.is("man(" + man + ", " + what + ")", x.man(man, what), due[man][what]);
            }
        }
        x.week();
        Due.is("crop behind a week", x.man(0, 0), 13);
        Due.is("SPENT behind a week", x.man(0, 1), 0);
        Due.is("hours behind a week", x.man(0, 3), 11);
        Due.is("wages behind a week", x.man(0, 4), 7);
    }

    private static void manOfFive() {
        StringBuilder text = new StringBuilder("kind a;kind b;kind c;");
        for (int man = 0; man < 5; man++) {
            text.append("man " + "mnopq".charAt(man) + " crop " + (90 + man) + (man % 2 == 0 ? " loose;" : ";"));
        }
        for (int man = 0; man < 5; man++) {
            String name = " " + "mnopq".charAt(man) + " ";
            text.append("hedge" + name + (2 * man) + ";purse" + name + "a " + man + ";purse" + name + "b 10;purse" + name
                + "c 2" + man + ";pay" + name + "a 1;pay" + name + "b " + man + ";pay" + name + "c 4;");
        }
        WeatherWages x = Mills.of(text + "hours 8;grow plot - third;");
        for (int man = 0; man < 5; man++) {
            int[] due = {90 + man, 0, man, 30 + 2 * man, 5 + man, 2 * man, 1 - man % 2};
            for (int what = 0; what < 7; what++) {
                Due.is("man(" + man + ", " + what + ")", x.man(man, what), due[what]);
            }
        }
        x.spend(4, 2, 7);
        x.spend(4, 1, 1);
        Due.is("man(4, 1)", x.man(4, 1), 8);
        Due.is("man(4, 2)", x.man(4, 2), -3);
        Due.is("man(4, 3)", x.man(4, 3), 30);
        Due.is("man(3, 2)", x.man(3, 2), 3 - 7 * 4 / 10);
    }

    private static void manNone() {
        Due.says("6", "-1000000 if there is none such, or for another what.");
        WeatherWages x = Mills.of(MILL);
        for (int wild : WILD) {
            for (int what = 0; what < 7; what++) {
                Due.is("man(" + wild + ", " + what + ")", x.man(wild, what), NOWHERE);
            }
        }
        for (int what : new int[] {-1, 7, 8, Integer.MIN_VALUE, Integer.MAX_VALUE}) {
            for (int man = 0; man < 3; man++) {
                Due.is("man(" + man + ", " + what + ")", x.man(man, what), NOWHERE);
            }
        }
        Due.is("man(0, 0) of nothing told", new WeatherWages().man(0, 0), NOWHERE);
    }

    private static void purse() {
        Due.says("7", "Hours of a KIND in a purse;");
        WeatherWages x = Mills.of(MILL);
        int[][] due = {{4, 3}, {0, 60}, {0, 0}};
        for (int man = 0; man < 3; man++) {
            for (int kind = 0; kind < 2; kind++) {
                Due.is("purse(" + man + ", " + kind + ")", x.purse(man, kind), due[man][kind]);
            }
        }
        x.spend(0, 1, 2);
        Due.is("purse(0, 1)", x.purse(0, 1), 1);
        Due.says("7", "NONE if one can't be.");
        for (int wild : WILD) {
            Due.is("purse(" + wild + ", 0)", x.purse(wild, 0), -1);
            Due.is("purse(1, " + wild + ")", x.purse(1, wild), -1);
            Due.is("purse(wild)", x.purse(wild, wild), -1);
        }
        Due.is("purse(0, 2)", x.purse(0, 2), -1);
        Due.is("purse(0, 0) without kinds", Mills.of("man m crop 1;").purse(0, 0), -1);
        Due.is("purse(0, 0) of nothing told", new WeatherWages().purse(0, 0), -1);
    }

    /** The hedge of m lets six of ten through, that of n all. */
    private static void over() {
        Due.says("8", "Hours of a KIND OVER a plot;");
        WeatherWages x = Mills.of(MILL);
        x.spend(0, 0, 3);
        x.spend(1, 1, 2);
        int[][] due = {{3, 1}, {1, 2}, {0, 2}};
        for (int man = 0; man < 3; man++) {
            for (int kind = 0; kind < 2; kind++) {
                Due.is("over(" + man + ", " + kind + ")", x.over(man, kind), due[man][kind]);
            }
        }
        Due.says("8", "NONE if one can't be.");
        for (int wild : WILD) {
            Due.is("over(" + wild + ", 0)", x.over(wild, 0), -1);
            Due.is("over(1, " + wild + ")", x.over(1, wild), -1);
            Due.is("over(wild)", x.over(wild, wild), -1);
        }
        Due.is("over(0, 2)", x.over(0, 2), -1);
        Due.is("over(0, 0) without kinds", Mills.of("man m crop 1;").over(0, 0), -1);
        Due.is("over(0, 0) of nothing told", new WeatherWages().over(0, 0), -1);
    }

    private static void pay() {
        Due.says("9", "Hours of a KIND a MAN is paid by the week;");
        WeatherWages x = Mills.of(MILL);
        int[][] due = {{2, 5}, {0, 0}, {0, 9}};
        for (int man = 0; man < 3; man++) {
            for (int kind = 0; kind < 2; kind++) {
                Due.is("pay(" + man + ", " + kind + ")", x.pay(man, kind), due[man][kind]);
            }
        }
        Due.says("9", "NONE if one can't be.");
        for (int wild : WILD) {
            Due.is("pay(" + wild + ", 0)", x.pay(wild, 0), -1);
            Due.is("pay(1, " + wild + ")", x.pay(1, wild), -1);
            Due.is("pay(wild)", x.pay(wild, wild), -1);
        }
        Due.is("pay(2, 2)", x.pay(2, 2), -1);
        Due.is("pay(0, 0) without kinds", Mills.of("man m crop 1;").pay(0, 0), -1);
        Due.is("pay(0, 0) of nothing told", new WeatherWages().pay(0, 0), -1);
    }

    private static void all() {
        Due.says("10", "Hours of a KIND in all purses (what 0), OVER all plots (1);");
        WeatherWages x = Mills.of(MILL);
        Due.is("all(0, 0)", x.all(0, 0), 4);
        Due.is("all(1, 0)", x.all(1, 0), 63);
        Due.is("all(0, 1)", x.all(0, 1), 0);
        x.spend(0, 0, 3);
        x.spend(1, 1, 2);
        Due.is("all(0, 0)", x.all(0, 0), 1);
        Due.is("all(1, 0)", x.all(1, 0), 61);
        Due.is("all(0, 1)", x.all(0, 1), 4);
        Due.is("all(1, 1)", x.all(1, 1), 5);
        WeatherWages five = Mills.of("kind a;man m crop 1;man n crop 1;man o crop 1;man p crop 1;man q crop 1;purse m a 1;"
            + "purse n a 2;purse o a 3;purse p a 4;purse q a 5;");
        Due.is("all(0, 0) of five", five.all(0, 0), 15);
        five.spend(4, 0, 5);
        five.spend(0, 0, 1);
        Due.is("all(0, 1) of five", five.all(0, 1), 6);
        WeatherWages none = Mills.of("kind a;");
        Due.is("all(0, 0) without men", none.all(0, 0), 0);
        Due.is("all(0, 1) without men", none.all(0, 1), 0);
    }

    /** Full purses of all: 99 hours of each of three kinds. */
    private static void allOfFullPurses() {
        StringBuilder text = new StringBuilder("kind a;kind b;kind c;man m crop 1;man n crop 1;man o crop 1;man p crop 1;"
            + "man q crop 1;");
        for (int pair = 0; pair < 15; pair++) {
            String names = " " + "mnopq".charAt(pair / 3) + " " + "abc".charAt(pair % 3);
            text.append("purse" + names + " 60;pay" + names + " 9;");
        }
        WeatherWages x = Mills.of(text.toString());
        for (int week = 0; week < 5; week++) {
            x.week();
        }
        for (int kind = 0; kind < 3; kind++) {
            Due.is("all(" + kind + ", 0) of full purses", x.all(kind, 0), 495);
        }
        Due.is("man(4, 3) of full purses", x.man(4, 3), 297);
        Due.is("man(4, 4)", x.man(4, 4), 27);
        Due.is("gulf() of full purses", x.gulf(), 0);
        for (int kind = 0; kind < 3; kind++) {
            x.give(2, 0, kind, 99);
        }
        Due.is("gulf() to an empty one", x.gulf(), 297);
        Due.is("richest()", x.richest(), 0);
        Due.is("all(1, 0)", x.all(1, 0), 396);
    }

    private static void allNone() {
        Due.says("10", "NONE if there is no such KIND, or for another what.");
        WeatherWages x = Mills.of(MILL);
        for (int wild : WILD) {
            Due.is("all(" + wild + ", 0)", x.all(wild, 0), -1);
            Due.is("all(" + wild + ", 1)", x.all(wild, 1), -1);
            Due.is("all(0, " + wild + ")", x.all(0, wild), -1);
            Due.is("all(1, " + wild + ")", x.all(1, wild), -1);
        }
        Due.is("all(2, 0)", x.all(2, 0), -1);
        Due.is("all(0, 2)", x.all(0, 2), -1);
        Due.is("all(0, 0) of nothing told", new WeatherWages().all(0, 0), -1);
    }

    private static void left() {
        Due.says("11", "How many hours a MAN can spend this week still (hours less what he SPENT, whatever his purse has);");
        WeatherWages x = Mills.of(MILL);
        Due.is("left(0)", x.left(0), 7);
        Due.is("left(1)", x.left(1), 7);
        Due.is("left(2) of an empty purse", x.left(2), 7);
        x.spend(0, 1, 2);
        x.spend(0, 0, 1);
        Due.is("left(0)", x.left(0), 4);
        Due.is("left(1)", x.left(1), 7);
        x.give(0, 1, 0, 3);
        x.spend(0, 1, 1);
        Due.is("left(0) of an empty purse", x.left(0), 3);
        x.spend(1, 1, 7);
        Due.is("left(1)", x.left(1), 0);
        x.week();
        Due.is("left(0) behind a week", x.left(0), 7);
        Due.is("left(1) behind a week", x.left(1), 7);
        Due.is("left(0), not told", Mills.of("man m crop 1;").left(0), 6);
    }

    private static void leftNone() {
        Due.says("11", "NONE if there is none such.");
        WeatherWages x = Mills.of(MILL);
        for (int wild : WILD) {
            Due.is("left(" + wild + ")", x.left(wild), -1);
        }
        Due.is("left(0) of nothing told", new WeatherWages().left(0), -1);
    }

    private static void about() {
        Due.says("42", "What 0: MEN, 1: KINDS, 2: books, 3: rates, 4: the week, 5: the SEED, 6: hours, 7: ACTS that can be "
            + "undone, 8: redone, 9: SIGHTS, 10: the TIME, 11: bytes on the TAPE, 12: units, 13: numbers that lie there.");
        WeatherWages x = Mills.of(MILL);
        x.week();
        x.week();
        x.spend(0, 0, 1);
        x.undo();
        x.least(0, 1, true);
        x.more(0, 1, true);
        x.untell(0);
        x.later(17);
        Mills.feed(x, "man ");
        x.pool(0, 1);
        int[] due = {3, 2, 4, 1, 2, ((123 * 137 + 71) % 1000 * 137 + 71) % 1000, 7, 2, 1, 2, 17, 4, 2, 4};
        for (int what = 0; what < due.length; what++) {
            Due.is("about(" + what + ")", x.about(what), due[what]);
        }
    }

    private static void aboutEach() {
        Due.is("units within brackets", Mills.of("grow (first + (2)) * week;").about(12), 5);
        Due.is("units behind not", Mills.of("grow not 1 and not not 2;").about(12), 2);
        Due.is("units of one", Mills.of("grow 7;").about(12), 1);
        Due.is("units, grow not told", Mills.of("kind a;").about(12), 0);
        Due.is("rates", Mills.of("kind a;kind b;rate a 1 for b 1;rate b 1 for a 1;").about(3), 2);
        WeatherWages x = Mills.of("man m crop 1;grow 7 + 1;");
        Mills.tell(x, "grow 1 + 2 + 3 + ;");
        Due.is("units behind a fault", x.about(12), 2);
        Mills.feed(x, "book 1;");
        Due.is("bytes", x.about(11), 7);
        Due.is("books ahead of mill()", x.about(2), 0);
    }

    private static void aboutNone() {
        Due.says("42", "NONE for another what.");
        WeatherWages x = Mills.of(MILL);
        for (int what : new int[] {-1, 14, 15, 100, Integer.MIN_VALUE, Integer.MAX_VALUE}) {
            Due.is("about(" + what + ")", x.about(what), -1);
            Due.is("about(" + what + ") of nothing told", new WeatherWages().about(what), -1);
        }
    }
}
