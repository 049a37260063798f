/** Promises 33 to 39: sights, times, orders, sure and ask. */
public final class SightsTest {
    private static final String THREE = "man m crop 1;man n crop 1;man o crop 1;book 5;book 9;book 7;";

    public static void main(String[] args) {
        least();
        more();
        thirty();
        untell();
        later();
        orders();
        ordersAtTimes();
        fewerBooksThanMen();
        sure();
        likeBooks();
        ask();
        Due.end();
    }

    private static void least() {
        WeatherWages x = Mills.of(THREE);
        Due.is("least(0, 6, true)", x.least(0, 6, true), 0);
        Due.is("orders(0)", x.orders(0), 4);
        Due.is("least(-1, 6, true)", x.least(-1, 6, true), -1);
        Due.is("least(3, 6, true)", x.least(3, 6, true), -1);
        Due.is("least(0, -1, true)", x.least(0, -1, true), -1);
        Due.is("least(0, 100, false)", x.least(0, 100, false), -1);
        Due.is("about(9)", x.about(9), 1);
        Due.is("least(1, 7, false)", x.least(1, 7, false), 1);
        Due.is("orders(0)", x.orders(0), 2);
        Due.is("sure(1, 0)", x.sure(1, 0), 0);
        Due.is("least(0, 9, true)", x.least(0, 9, true), 2);
        Due.is("orders(0)", x.orders(0), 1);
        Due.is("least(2, 0, true)", x.least(2, 0, true), 3);
        Due.is("orders(0)", x.orders(0), 1);
        Due.is("least(2, 99, false)", x.least(2, 99, false), 4);
        Due.is("orders(0)", x.orders(0), 1);
        Due.is("least(2, 0, false)", x.least(2, 0, false), 5);
        Due.is("orders(0)", x.orders(0), 0);
    }

    private static void more() {
        WeatherWages x = Mills.of(THREE);
        Due.is("more(0, 0, true)", x.more(0, 0, true), -1);
        Due.is("more(0, 3, true)", x.more(0, 3, true), -1);
        Due.is("more(3, 0, true)", x.more(3, 0, true), -1);
        Due.is("more(-1, 0, true)", x.more(-1, 0, true), -1);
        Due.is("more(0, -1, true)", x.more(0, -1, true), -1);
        Due.is("about(9)", x.about(9), 0);
        Due.is("more(0, 1, true)", x.more(0, 1, true), 0);
        Due.is("orders(0)", x.orders(0), 3);
        Due.is("more(2, 1, false)", x.more(2, 1, false), 1);
        Due.is("orders(0)", x.orders(0), 1);
        Due.is("sure(0, 0)", x.sure(0, 0), 1);
        Due.is("sure(1, 0)", x.sure(1, 0), 2);
        Due.is("sure(2, 0)", x.sure(2, 0), 0);
    }

    private static void thirty() {
        WeatherWages x = Mills.of(THREE);
        for (int n = 0; n < 30; n++) {
            Due.is("sight " + n, n % 2 == 0 ? x.least(0, n, true) : x.more(0, 1, true), n);
        }
        Due.is("least of 31", x.least(0, 1, true), -1);
        Due.is("more of 31", x.more(0, 1, true), -1);
        Due.is("untell(29)", x.untell(29), true);
        Due.is("least of 31, one untold", x.least(0, 1, true), -1);
        Due.is("about(9)", x.about(9), 30);
    }

    private static void untell() {
        WeatherWages x = Mills.of(THREE);
        Due.is("untell(0) of none", x.untell(0), false);
        x.least(0, 9, true);
        x.least(1, 7, true);
        Due.is("orders(0)", x.orders(0), 1);
        Due.is("untell(-1)", x.untell(-1), false);
        Due.is("untell(2)", x.untell(2), false);
        Due.is("untell(0)", x.untell(0), true);
        Due.is("untell(0) again", x.untell(0), false);
        Due.is("orders(0)", x.orders(0), 4);
        Due.is("about(9)", x.about(9), 2);
        x.later(3);
        Due.is("untell(0) later", x.untell(0), false);
        Due.is("untell(1)", x.untell(1), true);
        Due.is("orders(2)", x.orders(2), 4);
        Due.is("orders(3)", x.orders(3), 6);
    }

    private static void later() {
        WeatherWages x = new WeatherWages();
        Due.is("later(0)", x.later(0), 0);
        Due.is("later(1)", x.later(1), 1);
        Due.is("later(-1)", x.later(-1), -1);
        Due.is("later(1001)", x.later(1001), -1);
        Due.is("later(max)", x.later(Integer.MAX_VALUE), -1);
        Due.is("about(10)", x.about(10), 1);
        for (int n = 1; n < 100; n++) {
            Due.is("later(1000)", x.later(1000), 1000 * n + 1);
        }
        Due.is("later(1000)", x.later(1000), -1);
        Due.is("about(10)", x.about(10), 99001);
        Due.is("later(999)", x.later(999), 100000);
        Due.is("later(1)", x.later(1), -1);
        Due.is("later(0)", x.later(0), 100000);
    }

    private static void orders() {
        Due.is("orders without men", Mills.of("book 1;").orders(0), 1);
        Due.is("orders without books", Mills.of("man m crop 1;").orders(0), 1);
        Due.is("orders of one", Mills.of("man m crop 1;book 7;").orders(0), 1);
        Due.is("orders of three", Mills.of(THREE).orders(0), 6);
        Due.is("orders of three at a wild time", Mills.of(THREE).orders(Integer.MIN_VALUE), 6);
        WeatherWages five = Mills.of("man a crop 1;man b crop 1;man c crop 1;man d crop 1;man e crop 1;"
            + "book 1;book 2;book 3;book 4;book 5;");
        Due.is("orders of five", five.orders(0), 120);
        five.more(0, 4, true);
        Due.is("orders of five, one sight", five.orders(0), 60);
        five.least(4, 4, true);
        Due.is("orders of five, two sights", five.orders(0), 6);
        five.more(4, 0, true);
        Due.is("orders of five, none", five.orders(0), 0);
    }

    /** Told at 10 and untold at 20 it is known from 10 to 19. */
    private static void ordersAtTimes() {
        WeatherWages x = Mills.of(THREE);
        x.later(10);
        x.least(0, 9, true);
        x.later(10);
        x.untell(0);
        x.least(0, 6, false);
        x.untell(1);
        x.least(1, 9, true);
        int[][] due = {{Integer.MIN_VALUE, 6}, {-1, 6}, {0, 6}, {9, 6}, {10, 2}, {19, 2}, {20, 2}, {21, 2},
            {Integer.MAX_VALUE, 2}};
        for (int[] at : due) {
            Due.is("orders(" + at[0] + ")", x.orders(at[0]), at[1]);
        }
        Due.is("sure(0, 9)", x.sure(0, 9), -2);
        Due.is("sure(0, 19)", x.sure(0, 19), 1);
        Due.is("sure(0, 20)", x.sure(0, 20), -2);
        Due.is("sure(1, 19)", x.sure(1, 19), -2);
        Due.is("sure(1, 20)", x.sure(1, 20), 1);
        Due.is("ask(0, 19)", x.ask(0, 19), 1);
        Due.is("ask(0, 20)", x.ask(0, 20), 0);
        Due.is("ask(0, 0)", x.ask(0, 0), 0);
        Due.is("ask(1, 0)", x.ask(1, 0), 2);
        Mills.tell(x, THREE);
        Due.is("about(10)", x.about(10), 20);
        x.least(0, 9, true);
        Due.is("orders(19)", x.orders(19), 6);
        Due.is("orders(20)", x.orders(20), 2);
    }

    private static void fewerBooksThanMen() {
        WeatherWages x = Mills.of("man m crop 1;man n crop 1;man o crop 1;book 5;book 9;");
        Due.is("orders(0)", x.orders(0), 2);
        Due.is("least(2, 1, true)", x.least(2, 1, true), -1);
        Due.is("more(0, 2, true)", x.more(0, 2, true), -1);
        Due.is("more(2, 0, true)", x.more(2, 0, true), -1);
        Due.is("sure(2, 0)", x.sure(2, 0), -1);
        x.more(0, 1, true);
        Due.is("sure(0, 0)", x.sure(0, 0), 1);
        Due.is("sure(1, 0)", x.sure(1, 0), 0);
        Due.is("sure(2, 0)", x.sure(2, 0), -1);
        WeatherWages y = Mills.of("man m crop 1;man n crop 1;book 5;book 9;book 99;");
        Due.is("orders(0) of two men", y.orders(0), 2);
        y.least(0, 50, true);
        Due.is("orders(0) by the third book", y.orders(0), 0);
    }

    private static void sure() {
        WeatherWages x = Mills.of(THREE);
        Due.is("sure(0, 0)", x.sure(0, 0), -2);
        Due.is("sure(3, 0)", x.sure(3, 0), -1);
        Due.is("sure(-1, 0)", x.sure(-1, 0), -1);
        x.least(2, 9, true);
        Due.is("sure(2, 0)", x.sure(2, 0), 1);
        Due.is("sure(2, -1)", x.sure(2, -1), -2);
        Due.is("sure(0, 0)", x.sure(0, 0), -2);
        x.least(2, 9, false);
        Due.is("sure(2, 0) without orders", x.sure(2, 0), -1);
        Due.is("sure(0, 0) without men", new WeatherWages().sure(0, 0), -1);
    }

    /** Books that tell the same are two books all the same. */
    private static void likeBooks() {
        WeatherWages x = Mills.of("man m crop 1;man n crop 1;book 5;book 5;");
        Due.is("orders(0)", x.orders(0), 2);
        Due.is("sure(0, 0)", x.sure(0, 0), -2);
        x.more(0, 1, false);
        Due.is("orders(0), not more", x.orders(0), 2);
        x.more(0, 1, true);
        Due.is("orders(0), more", x.orders(0), 0);
    }

    private static void ask() {
        WeatherWages x = Mills.of(THREE);
        Due.is("ask(0, 0)", x.ask(0, 0), 0);
        Due.is("ask(1, 0)", x.ask(1, 0), 2);
        Due.is("ask(2, 0)", x.ask(2, 0), -1);
        Due.is("ask(-1, 0)", x.ask(-1, 0), -1);
        x.least(0, 9, true);
        Due.is("ask(0, 0)", x.ask(0, 0), 1);
        Due.is("ask(1, 0)", x.ask(1, 0), 1);
        x.least(0, 0, false);
        Due.is("ask(0, 0) without orders", x.ask(0, 0), -1);
        Due.is("ask(1, 0) without orders", x.ask(1, 0), -1);
        Due.is("ask(0, 0) without men", Mills.of("book 4;").ask(0, 0), -1);
        Due.is("ask(1, 0) without books", Mills.of("man m crop 4;").ask(1, 0), -1);
        WeatherWages four = Mills.of("man a crop 1;man b crop 1;man c crop 1;man d crop 1;book 1;book 2;book 3;book 4;");
        four.more(0, 1, true);
        four.more(1, 2, true);
        Due.is("orders(0) of four", four.orders(0), 4);
        Due.is("ask(0, 0) of four", four.ask(0, 0), 3);
        Due.is("ask(1, 0) of four", four.ask(1, 0), 1);
    }
}
