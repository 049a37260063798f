/** Promises 6 to 11 and 42: what is now. */
public final class NowTest {
    private static final int NOWHERE = -1000000;
    private static final String MILL = "kind a;kind b;man m crop 10;man n crop 20 loose;man o crop 30;"
        + "purse m a 4;purse m b 3;purse n b 60;pay m a 2;pay m b 5;pay o b 9;hedge m 4;hedge n 0;"
        + "rate a 1 for b 2;book 1;book 2;book 3;book 4;hours 7;draw 123;grow first - second;";

    public static void main(String[] args) {
        man();
        purse();
        over();
        pay();
        all();
        left();
        about();
        Due.end();
    }

    private static void man() {
        WeatherWages x = Mills.of(MILL);
        x.spend(0, 0, 3);
        int[][] due = {{10, 3, 3, 4, 7, 4, 0}, {20, 0, 1, 60, 0, 0, 1}, {30, 0, 0, 0, 9, 10, 0}};
        for (int man = 0; man < due.length; man++) {
            for (int what = 0; what < 7; what++) {
                Due.is("man(" + man + ", " + what + ")", x.man(man, what), due[man][what]);
            }
            Due.is("man(" + man + ", 7)", x.man(man, 7), NOWHERE);
            Due.is("man(" + man + ", -1)", x.man(man, -1), NOWHERE);
        }
        for (int man : new int[] {-1, 3, 5, Integer.MIN_VALUE, Integer.MAX_VALUE}) {
            Due.is("man(" + man + ", 0)", x.man(man, 0), NOWHERE);
        }
    }

    private static void purse() {
        WeatherWages x = Mills.of(MILL);
        Due.is("purse(0, 0)", x.purse(0, 0), 4);
        Due.is("purse(0, 1)", x.purse(0, 1), 3);
        Due.is("purse(1, 0)", x.purse(1, 0), 0);
        Due.is("purse(1, 1)", x.purse(1, 1), 60);
        Due.is("purse(2, 1)", x.purse(2, 1), 0);
        Due.is("purse(-1, 1)", x.purse(-1, 1), -1);
        Due.is("purse(3, 0)", x.purse(3, 0), -1);
        Due.is("purse(0, 2)", x.purse(0, 2), -1);
        Due.is("purse(0, -1)", x.purse(0, -1), -1);
        Due.is("purse(1, -1)", x.purse(1, -1), -1);
        Due.is("purse(max, max)", x.purse(Integer.MAX_VALUE, Integer.MAX_VALUE), -1);
    }

    /** The hedge of m lets six of ten through, that of n all. */
    private static void over() {
        WeatherWages x = Mills.of(MILL);
        x.spend(0, 0, 3);
        x.spend(1, 1, 2);
        int[][] due = {{3, 1}, {1, 2}, {0, 2}};
        for (int man = 0; man < 3; man++) {
            Due.is("over(" + man + ", 0)", x.over(man, 0), due[man][0]);
            Due.is("over(" + man + ", 1)", x.over(man, 1), due[man][1]);
            Due.is("over(" + man + ", 2)", x.over(man, 2), -1);
            Due.is("over(" + man + ", -1)", x.over(man, -1), -1);
        }
        Due.is("over(-1, 1)", x.over(-1, 1), -1);
        Due.is("over(3, 0)", x.over(3, 0), -1);
    }

    private static void pay() {
        WeatherWages x = Mills.of(MILL);
        Due.is("pay(0, 0)", x.pay(0, 0), 2);
        Due.is("pay(0, 1)", x.pay(0, 1), 5);
        Due.is("pay(1, 1)", x.pay(1, 1), 0);
        Due.is("pay(2, 1)", x.pay(2, 1), 9);
        Due.is("pay(2, 2)", x.pay(2, 2), -1);
        Due.is("pay(3, 0)", x.pay(3, 0), -1);
        Due.is("pay(1, -1)", x.pay(1, -1), -1);
        Due.is("pay(-1, 0)", x.pay(-1, 0), -1);
    }

    private static void all() {
        WeatherWages x = Mills.of(MILL);
        x.spend(0, 0, 3);
        x.spend(1, 1, 2);
        Due.is("all(0, 0)", x.all(0, 0), 1);
        Due.is("all(1, 0)", x.all(1, 0), 61);
        Due.is("all(0, 1)", x.all(0, 1), 4);
        Due.is("all(1, 1)", x.all(1, 1), 5);
        Due.is("all(0, 2)", x.all(0, 2), -1);
        Due.is("all(0, -1)", x.all(0, -1), -1);
        Due.is("all(2, 0)", x.all(2, 0), -1);
        Due.is("all(-1, 1)", x.all(-1, 1), -1);
    }

    private static void left() {
        WeatherWages x = Mills.of(MILL);
        Due.is("left(0)", x.left(0), 7);
        Due.is("left(2)", x.left(2), 7);
        x.spend(0, 1, 2);
        x.spend(0, 0, 1);
        Due.is("left(0)", x.left(0), 4);
        Due.is("left(1)", x.left(1), 7);
        x.week();
        Due.is("left(0)", x.left(0), 7);
        Due.is("left(-1)", x.left(-1), -1);
        Due.is("left(3)", x.left(3), -1);
    }

    private static void about() {
        WeatherWages x = Mills.of(MILL);
        x.week();
        x.week();
        x.spend(0, 0, 1);
        x.undo();
        x.least(0, 1, true);
        x.more(0, 1, true);
        x.later(17);
        Mills.feed(x, "man ");
        x.pool(0, 1);
        int[] due = {3, 2, 4, 1, 2, ((123 * 137 + 71) % 1000 * 137 + 71) % 1000, 7, 2, 1, 2, 17, 4, 2, 4};
        for (int what = 0; what < due.length; what++) {
            Due.is("about(" + what + ")", x.about(what), due[what]);
        }
        Due.is("about(14)", x.about(14), -1);
        Due.is("about(-1)", x.about(-1), -1);
        Due.is("about(min)", x.about(Integer.MIN_VALUE), -1);
    }
}
