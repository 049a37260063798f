/** Section 4 of the terms, promises 33 to 39: SIGHTS, the TIME, ORDERS, SURE and ASK. */
public final class SightsTest {
    private static final String MEN = "man m crop 1;man n crop 1;man o crop 1;man p crop 1;man q crop 1;";
    private static final String THREE = "man m crop 1;man n crop 1;man o crop 1;book 5;book 9;book 7;";

    public static void main(String[] args) {
        thirty();
        toldAtATime();
        untoldLater();
        ofTheFirstMen();
        atLeast();
        least();
        leastRefused();
        moreThanAnother();
        more();
        moreRefused();
        orDoesNot();
        knownAt();
        knownInTwoTimes();
        untell();
        untellRefused();
        time();
        timeRefused();
        ways();
        waysOfFewer();
        orders();
        sureOfAMan();
        likeBooks();
        sure();
        sureRefused();
        askWhom();
        askOfLikeOnes();
        ask();
        askRefused();
        Due.end();
    }

    private static void thirty() {
        Due.says("T4", "SIGHTS, 30 at most,");
        WeatherWages x = Mills.of(THREE);
        for (int n = 0; n < 30; n++) {
            Due.is("about(9)", x.about(9), n);
            Due.is("sight " + n, n % 2 == 0 ? x.least(0, n, true) : x.more(0, 1, true), n);
        }
        Due.is("least of 31", x.least(0, 1, true), -1);
        Due.is("more of 31", x.more(0, 1, true), -1);
        x.untell(29);
        Due.is("least of 31, one untold", x.least(0, 1, true), -1);
        Due.is("about(9)", x.about(9), 30);
        Mills.tell(x, THREE);
        Due.is("least of the first again", x.least(0, 1, true), 0);
    }

    private static void toldAtATime() {
        Due.says("T4", "are TOLD at a TIME (0 at first, goes on),");
        WeatherWages x = Mills.of(THREE);
        Due.is("about(10) at first", x.about(10), 0);
        x.least(0, 9, true);
        Due.is("orders(-1)", x.orders(-1), 6);
        Due.is("orders(0)", x.orders(0), 2);
        x.later(7);
        x.least(1, 7, true);
        Due.is("orders(6)", x.orders(6), 2);
        Due.is("orders(7)", x.orders(7), 1);
        x.week();
        x.undo();
        x.image(0);
        x.back(0);
        Due.is("about(10), nothing else makes it go on", x.about(10), 7);
    }

    private static void untoldLater() {
        Due.says("T4", "UNTOLD at a later one or the same:");
        WeatherWages x = Mills.of(THREE);
        x.later(4);
        x.least(0, 9, true);
        x.least(0, 9, true);
        Due.is("untell(0) at the same", x.untell(0), true);
        Due.is("orders(4)", x.orders(4), 2);
        x.later(3);
        Due.is("untell(1) later", x.untell(1), true);
        Due.is("orders(4)", x.orders(4), 2);
        Due.is("orders(6)", x.orders(6), 2);
        Due.is("orders(7)", x.orders(7), 6);
        WeatherWages same = Mills.of(THREE);
        same.least(0, 9, true);
        same.untell(0);
        Due.is("orders(0), told and untold at 0", same.orders(0), 6);
        Due.is("orders(-1), told and untold at 0", same.orders(-1), 6);
    }

    private static void ofTheFirstMen() {
        Due.says("T4", "of one of the first n MEN (n the less of how many MEN, how many books there are)");
        for (int men = 0; men <= 5; men++) {
            for (int books = 0; books <= 5; books++) {
                String text = MEN.substring(0, 13 * men) + "book 5;book 5;book 5;book 5;book 5;".substring(0, 7 * books);
                WeatherWages x = Mills.of(text);
                int n = Math.min(men, books);
                for (int man = 0; man < 6; man++) {
                    Due.is("least of " + text, x.least(man, 5, true) >= 0, man < n);
                    Due.is("more of " + text, x.more(man, 0, false) >= 0, man < n && man > 0);
                    Due.is("more of " + text, x.more(0, man, false) >= 0, man < n && man > 0);
                    Due.is("sure of " + text, x.sure(man, 0) == -1, man >= n);
                }
                int[] ways = {1, 1, 2, 6, 24, 120};
                Due.is("orders of " + text, x.orders(0), ways[n]);
            }
        }
    }

    private static void atLeast() {
        Due.says("T4", "that his book tells a number at least;");
        for (int number = 0; number <= 99; number++) {
            WeatherWages x = Mills.of(THREE);
            x.least(1, number, true);
            int books = number <= 5 ? 3 : number <= 7 ? 2 : number <= 9 ? 1 : 0;
            Due.is("orders(0) of " + number, x.orders(0), 2 * books);
            Due.is("sure(1, 0) of " + number, x.sure(1, 0), books == 1 ? 1 : books == 0 ? -1 : -2);
        }
    }

    private static void least() {
        Due.says("33", "That a MAN's book tells a number (0 .. 99) at least, or does not:");
        WeatherWages ends = Mills.of("man m crop 1;man n crop 1;book 0;book 99;");
        Due.is("least(0, 0, true)", ends.least(0, 0, true), 0);
        Due.is("orders(0) of 0", ends.orders(0), 2);
        Due.is("least(0, 99, true)", ends.least(0, 99, true), 1);
        Due.is("sure(0, 0) of 99", ends.sure(0, 0), 1);
        Due.is("least(1, 99, false)", ends.least(1, 99, false), 2);
        Due.is("orders(0), not 99", ends.orders(0), 1);
        Due.is("least(1, 0, false)", ends.least(1, 0, false), 3);
        Due.is("orders(0), not 0", ends.orders(0), 0);
        Due.says("33", "the SIGHT's number;");
        WeatherWages x = Mills.of(THREE);
        Due.is("least", x.least(2, 50, false), 0);
        Due.is("more", x.more(2, 1, false), 1);
        Due.is("least", x.least(2, 50, false), 2);
    }

    private static void leastRefused() {
        Due.says("33", "NONE, doing nothing, if one can't be, or there are 30.");
        WeatherWages x = Mills.of(THREE);
        x.least(2, 50, false);
        x.more(2, 1, false);
        x.least(2, 50, false);
        for (int wild : Mills.WILD) {
            Due.is("least(" + wild + ", 5, true)", x.least(wild, 5, true), -1);
        }
        for (int wild : new int[] {Integer.MIN_VALUE, -1, 100, 101, Integer.MAX_VALUE}) {
            Due.is("least(0, " + wild + ", true)", x.least(0, wild, true), -1);
            Due.is("least(0, " + wild + ", false)", x.least(0, wild, false), -1);
        }
        Due.is("least(3, 5, true)", x.least(3, 5, true), -1);
        Due.is("about(9)", x.about(9), 3);
        Due.is("orders(0)", x.orders(0), 3);
        Due.is("least(0, 0, false) of nothing told", new WeatherWages().least(0, 0, false), -1);
        for (int n = 3; n < 30; n++) {
            x.least(0, 0, true);
        }
        Due.is("least of 31", x.least(0, 0, false), -1);
        Due.is("orders(0)", x.orders(0), 3);
        Due.is("about(9)", x.about(9), 30);
    }

    private static void moreThanAnother() {
        Due.says("T4", "that it tells more than another one's of these;");
        for (int man = 0; man < 3; man++) {
            for (int other = 0; other < 3; other++) {
                WeatherWages x = Mills.of(THREE);
                Due.is("more(" + man + ", " + other + ", true)", x.more(man, other, true), man == other ? -1 : 0);
                Due.is("orders(0)", x.orders(0), man == other ? 6 : 3);
                x.least(other, 7, true);
                Due.is("sure(" + man + ", 0)", x.sure(man, 0), man == other ? -2 : 1);
            }
        }
    }

    private static void more() {
        Due.says("34", "That a MAN's book tells more than another one's, or does not:");
        WeatherWages x = Mills.of(THREE);
        x.more(0, 1, true);
        x.more(2, 1, false);
        Due.is("orders(0)", x.orders(0), 1);
        Due.is("sure(0, 0)", x.sure(0, 0), 1);
        Due.is("sure(1, 0)", x.sure(1, 0), 2);
        Due.is("sure(2, 0)", x.sure(2, 0), 0);
        Due.says("34", "the SIGHT's number;");
        Due.is("more", x.more(0, 2, true), 2);
        Due.is("more", x.more(1, 2, true), 3);
    }

    private static void moreRefused() {
        Due.says("34", "NONE, doing nothing, if one can't be (himself, too), or there are 30.");
        WeatherWages x = Mills.of(THREE);
        x.more(0, 1, true);
        x.more(2, 1, false);
        x.more(0, 2, true);
        x.more(1, 2, true);
        for (int wild : Mills.WILD) {
            Due.is("more(" + wild + ", 0, true)", x.more(wild, 0, true), -1);
            Due.is("more(0, " + wild + ", true)", x.more(0, wild, true), -1);
            Due.is("more(wild)", x.more(wild, wild, false), -1);
        }
        for (int man = 0; man < 4; man++) {
            Due.is("more(himself)", x.more(man, man, true), -1);
            Due.is("more(himself)", x.more(man, man, false), -1);
        }
        Due.is("more(3, 0, true)", x.more(3, 0, true), -1);
        Due.is("more(0, 3, true)", x.more(0, 3, true), -1);
        Due.is("about(9)", x.about(9), 4);
        Due.is("orders(0)", x.orders(0), 1);
        Due.is("more(0, 1, false) of nothing told", new WeatherWages().more(0, 1, false), -1);
        for (int n = 4; n < 30; n++) {
            x.more(0, 1, true);
        }
        Due.is("more of 31", x.more(0, 1, false), -1);
        Due.is("orders(0)", x.orders(0), 1);
        Due.is("about(9)", x.about(9), 30);
    }

    private static void orDoesNot() {
        Due.says("T4", "or that it does not.");
        WeatherWages x = Mills.of(THREE);
        x.least(0, 7, false);
        Due.is("sure(0, 0)", x.sure(0, 0), 0);
        Due.is("orders(0)", x.orders(0), 2);
        x.more(1, 2, false);
        Due.is("sure(1, 0)", x.sure(1, 0), 2);
        Due.is("orders(0)", x.orders(0), 1);
        WeatherWages like = Mills.of("man m crop 1;man n crop 1;book 5;book 5;");
        like.more(0, 1, false);
        like.more(1, 0, false);
        Due.is("orders(0), like ones are not more", like.orders(0), 2);
        like.more(0, 1, true);
        Due.is("orders(0), like ones are more", like.orders(0), 0);
    }

    private static void knownAt() {
        Due.says("T4", "As known at k those count that were TOLD at k or before, not UNTOLD at k or before.");
        WeatherWages x = Mills.of(THREE);
        x.later(10);
        x.least(0, 9, true);
        x.later(10);
        x.untell(0);
        x.least(0, 6, false);
        x.untell(1);
        x.least(1, 9, true);
        int[][] due = {{Integer.MIN_VALUE, 6}, {-1, 6}, {0, 6}, {9, 6}, {10, 2}, {11, 2}, {19, 2}, {20, 2}, {21, 2},
            {Integer.MAX_VALUE, 2}};
        for (int[] at : due) {
            Due.is("orders(" + at[0] + ")", x.orders(at[0]), at[1]);
        }
        Due.is("sure(0, 9)", x.sure(0, 9), -2);
        Due.is("sure(0, 10)", x.sure(0, 10), 1);
        Due.is("sure(0, 19)", x.sure(0, 19), 1);
        Due.is("sure(0, 20)", x.sure(0, 20), -2);
        Due.is("sure(1, 19)", x.sure(1, 19), -2);
        Due.is("sure(1, 20)", x.sure(1, 20), 1);
        Due.is("ask(0, 9)", x.ask(0, 9), 0);
        Due.is("ask(0, 19)", x.ask(0, 19), 1);
        Due.is("ask(0, 20)", x.ask(0, 20), 0);
        Due.is("ask(1, 9)", x.ask(1, 9), 2);
        Due.is("ask(1, 19)", x.ask(1, 19), 1);
        int[] ends = {Integer.MIN_VALUE, Integer.MAX_VALUE};
        for (int i = 0; i < 2; i++) {
            Due.is("sure(0, " + ends[i] + ")", x.sure(0, ends[i]), -2);
            Due.is("sure(1, " + ends[i] + ")", x.sure(1, ends[i]), i == 0 ? -2 : 1);
            Due.is("ask(0, " + ends[i] + ")", x.ask(0, ends[i]), 0);
            Due.is("ask(1, " + ends[i] + ")", x.ask(1, ends[i]), i == 0 ? 2 : 1);
        }
        Due.is("about(10)", x.about(10), 20);
    }

    private static void knownInTwoTimes() {
        WeatherWages x = Mills.of(THREE);
        x.least(0, 9, true);
        x.later(5);
        x.least(0, 9, false);
        Due.is("orders(4)", x.orders(4), 2);
        Due.is("orders(5)", x.orders(5), 0);
        x.later(5);
        x.untell(0);
        Due.is("orders(4)", x.orders(4), 2);
        Due.is("orders(9)", x.orders(9), 0);
        Due.is("orders(10)", x.orders(10), 4);
    }

    private static void untell() {
        Due.says("35", "It is UNTOLD: true;");
        WeatherWages x = Mills.of(THREE);
        x.least(0, 9, true);
        x.least(0, 9, false);
        x.later(10);
        Due.is("untell(0)", x.untell(0), true);
        x.later(5);
        Due.is("untell(1)", x.untell(1), true);
        Due.is("orders(14)", x.orders(14), 4);
        Due.is("orders(15)", x.orders(15), 6);
        Due.is("about(9)", x.about(9), 2);
    }

    private static void untellRefused() {
        Due.says("35", "false if it is so already, or there is none such.");
        WeatherWages x = Mills.of(THREE);
        x.least(0, 9, true);
        x.least(0, 9, false);
        x.later(15);
        x.untell(0);
        x.untell(1);
        Due.is("untell(0) again", x.untell(0), false);
        Due.is("untell(1) again", x.untell(1), false);
        x.later(1);
        Due.is("untell(1) again, later", x.untell(1), false);
        Due.is("orders(15)", x.orders(15), 6);
        for (int sight : new int[] {2, 3, 29, 30, -1, Integer.MIN_VALUE, Integer.MAX_VALUE}) {
            Due.is("untell(" + sight + ")", x.untell(sight), false);
        }
        Due.is("untell(0) of nothing told", new WeatherWages().untell(0), false);
        x.least(0, 9, true);
        Due.is("orders(16)", x.orders(16), 2);
        Due.is("untell(2)", x.untell(2), true);
    }

    private static void time() {
        Due.says("36", "So much later (0 .. 1000): the TIME;");
        WeatherWages x = new WeatherWages();
        Due.is("later(0)", x.later(0), 0);
        Due.is("later(1)", x.later(1), 1);
        Due.is("later(1000)", x.later(1000), 1001);
        Due.is("about(10)", x.about(10), 1001);
    }

    private static void timeRefused() {
        Due.says("36", "NONE, doing nothing, for another number, or if it would be above 100,000.");
        WeatherWages x = new WeatherWages();
        x.later(1000);
        x.later(1);
        for (int by : new int[] {-1, 1001, -1000, Integer.MIN_VALUE, Integer.MAX_VALUE}) {
            Due.is("later(" + by + ")", x.later(by), -1);
            Due.is("about(10)", x.about(10), 1001);
        }
        for (int n = 2; n < 100; n++) {
            Due.is("later(1000)", x.later(1000), 1000 * n + 1);
        }
        Due.is("later(1000) at 99001", x.later(1000), -1);
        Due.is("about(10)", x.about(10), 99001);
        Due.is("later(998)", x.later(998), 99999);
        Due.is("later(2) at 99999", x.later(2), -1);
        Due.is("later(1) at 99999", x.later(1), 100000);
        Due.is("later(1) at 100000", x.later(1), -1);
        Due.is("later(0) at 100000", x.later(0), 100000);
        Mills.tell(x, THREE);
        x.least(0, 9, true);
        Due.is("orders(99999)", x.orders(99999), 6);
        Due.is("orders(100000)", x.orders(100000), 2);
    }

    private static void ways() {
        Due.says("T4", "ORDERS: ways to give each of the first n MEN one of the first n books, each to one, by which all "
            + "that count are so.");
        WeatherWages five = Mills.of(MEN + "book 1;book 2;book 3;book 4;book 5;");
        Due.is("orders of five", five.orders(0), 120);
        five.more(0, 4, true);
        Due.is("orders of five, one sight", five.orders(0), 60);
        five.least(4, 4, true);
        Due.is("orders of five, two sights", five.orders(0), 6);
        five.more(4, 0, true);
        Due.is("orders of five, none", five.orders(0), 0);
        WeatherWages chain = Mills.of(MEN + "book 10;book 20;book 30;book 40;book 50;");
        int[] due = {60, 20, 5, 1};
        for (int man = 0; man < 4; man++) {
            chain.more(man, man + 1, true);
            Due.is("orders of a chain", chain.orders(0), due[man]);
        }
        for (int man = 0; man < 5; man++) {
            Due.is("sure(" + man + ", 0)", chain.sure(man, 0), 4 - man);
        }
    }

    private static void waysOfFewer() {
        WeatherWages y = Mills.of("man m crop 1;man n crop 1;book 5;book 9;book 99;");
        Due.is("orders(0) of two men", y.orders(0), 2);
        y.least(0, 50, true);
        Due.is("orders(0), the third book is nobody's", y.orders(0), 0);
        WeatherWages x = Mills.of("man m crop 1;man n crop 1;man o crop 1;book 5;book 9;");
        Due.is("orders(0) of two books", x.orders(0), 2);
        x.more(0, 1, true);
        Due.is("sure(0, 0)", x.sure(0, 0), 1);
        Due.is("sure(1, 0)", x.sure(1, 0), 0);
        Due.is("sure(2, 0)", x.sure(2, 0), -1);
    }

    private static void orders() {
        Due.says("37", "ORDERS: how many (1 of none).");
        Due.is("orders(0) of nothing told", new WeatherWages().orders(0), 1);
        Due.is("orders(0) without men", Mills.of("book 1;").orders(0), 1);
        Due.is("orders(0) without books", Mills.of("man m crop 1;").orders(0), 1);
        Due.is("orders(0) of one", Mills.of("man m crop 1;book 7;").orders(0), 1);
        Due.is("orders(0) of three", Mills.of(THREE).orders(0), 6);
        WeatherWages one = Mills.of("man m crop 1;book 7;");
        one.least(0, 8, true);
        Due.is("orders(0) of one that is not so", one.orders(0), 0);
        Due.is("orders(-1) of one that is not so", one.orders(-1), 1);
    }

    private static void sureOfAMan() {
        Due.says("T4", "SURE of a MAN: the book, if it is the same in all.");
        WeatherWages x = Mills.of(MEN + "book 10;book 20;book 30;book 40;book 50;");
        x.least(3, 50, true);
        for (int man = 0; man < 5; man++) {
            Due.is("sure(" + man + ", 0)", x.sure(man, 0), man == 3 ? 4 : -2);
        }
        x.least(0, 11, false);
        x.more(1, 2, true);
        x.more(4, 1, true);
        int[] due = {0, 2, 1, 4, 3};
        for (int man = 0; man < 5; man++) {
            Due.is("sure(" + man + ", 0)", x.sure(man, 0), due[man]);
        }
    }

    private static void sure() {
        Due.says("38", "SURE: the book's place;");
        WeatherWages places = Mills.of("man m crop 1;man n crop 1;book 80;book 3;");
        places.more(0, 1, true);
        Due.is("sure(0, 0)", places.sure(0, 0), 0);
        Due.is("sure(1, 0)", places.sure(1, 0), 1);
        Due.is("sure(0, 0) of one", Mills.of("man m crop 1;book 7;").sure(0, 0), 0);
        Due.says("38", "-2 if it is not the same in all;");
        Due.is("sure(0, 0) of all", Mills.of(THREE).sure(0, 0), -2);
        Due.is("sure(0, -1)", places.sure(0, -1), -2);
        Due.is("sure(1, -1)", places.sure(1, -1), -2);
    }

    private static void sureRefused() {
        Due.says("38", "NONE if there are no ORDERS, or he is none of the first n.");
        WeatherWages none = Mills.of("man m crop 1;man n crop 1;man o crop 1;book 5;book 9;");
        for (int wild : Mills.WILD) {
            Due.is("sure(" + wild + ", 0)", none.sure(wild, 0), -1);
        }
        Due.is("sure(2, 0)", none.sure(2, 0), -1);
        none.least(1, 9, true);
        none.least(1, 9, false);
        Due.is("sure(0, 0) without orders", none.sure(0, 0), -1);
        Due.is("sure(1, 0) without orders", none.sure(1, 0), -1);
        Due.is("sure(1, -1)", none.sure(1, -1), -2);
        Due.is("sure(0, 0) of nothing told", new WeatherWages().sure(0, 0), -1);
    }

    /** Books that tell the same are two books all the same. */
    private static void likeBooks() {
        WeatherWages x = Mills.of("man m crop 1;man n crop 1;book 5;book 5;");
        Due.is("orders(0)", x.orders(0), 2);
        Due.is("sure(0, 0)", x.sure(0, 0), -2);
        Due.is("ask(1, 0)", x.ask(1, 0), 1);
    }

    private static void askWhom() {
        Due.says("T4", "ASK: the MAN of whom to see the book would leave the fewest of these at the most;");
        WeatherWages four = Mills.of("man a crop 1;man b crop 1;man c crop 1;man d crop 1;book 1;book 2;book 3;book 4;");
        four.more(0, 1, true);
        four.more(1, 2, true);
        Due.is("orders(0) of four", four.orders(0), 4);
        Due.is("ask(0, 0) of four", four.ask(0, 0), 3);
        Due.is("ask(1, 0) of four", four.ask(1, 0), 1);
        for (int man = 0; man < 3; man++) {
            WeatherWages x = Mills.of(THREE);
            x.least(man, 6, false);
            Due.is("ask(0, 0), one is known", x.ask(0, 0), man == 0 ? 1 : 0);
            Due.is("ask(1, 0), one is known", x.ask(1, 0), 1);
        }
    }

    private static void ask() {
        Due.says("39", "ASK what 0: the MAN,");
        WeatherWages x = Mills.of(MEN + "book 10;book 20;book 30;book 40;book 50;");
        Due.is("ask(0, 0)", x.ask(0, 0), 0);
        x.least(0, 30, true);
        x.least(2, 20, false);
        Due.is("ask(0, 0)", x.ask(0, 0), 0);
        x.later(1);
        x.least(0, 50, true);
        Due.is("ask(0, 1)", x.ask(0, 1), 1);
        Due.says("39", "1: how many are left at the most;");
        Due.is("orders(0)", x.orders(0), 18);
        Due.is("ask(1, -1)", x.ask(1, -1), 24);
        Due.is("ask(1, 0)", x.ask(1, 0), 6);
        Due.is("ask(1, 1)", x.ask(1, 1), 2);
    }

    private static void askRefused() {
        Due.says("39", "NONE if there are no ORDERS, none of n, or for another what.");
        WeatherWages x = Mills.of(THREE);
        x.later(1);
        for (int what : new int[] {-1, 2, 3, Integer.MIN_VALUE, Integer.MAX_VALUE}) {
            Due.is("ask(" + what + ", 0)", x.ask(what, 0), -1);
        }
        x.least(0, 0, false);
        for (int what = -1; what <= 2; what++) {
            Due.is("ask(" + what + ", 1) without orders", x.ask(what, 1), -1);
            Due.is("ask(" + what + ", 0) without men", Mills.of("book 4;").ask(what, 0), -1);
            Due.is("ask(" + what + ", 0) without books", Mills.of("man m crop 4;").ask(what, 0), -1);
            Due.is("ask(" + what + ", 0) of nothing told", new WeatherWages().ask(what, 0), -1);
        }
        Due.is("ask(0, -1) ahead of them", x.ask(0, -1), 0);
    }

    private static void askOfLikeOnes() {
        Due.says("T4", "of like ones the first.");
        Due.is("ask(0, 0)", Mills.of(THREE).ask(0, 0), 0);
        Due.is("ask(1, 0)", Mills.of(THREE).ask(1, 0), 2);
        Due.is("ask(0, 0) of one", Mills.of("man m crop 1;book 7;").ask(0, 0), 0);
        Due.is("ask(1, 0) of one", Mills.of("man m crop 1;book 7;").ask(1, 0), 1);
        WeatherWages all = Mills.of(THREE);
        all.more(0, 1, true);
        all.more(1, 2, true);
        Due.is("ask(0, 0), all is known", all.ask(0, 0), 0);
        Due.is("ask(1, 0), all is known", all.ask(1, 0), 1);
        WeatherWages last = Mills.of(MEN + "book 10;book 20;book 30;book 40;book 50;");
        last.least(0, 50, true);
        last.least(1, 40, true);
        Due.is("ask(0, 0), two are known", last.ask(0, 0), 2);
        Due.is("ask(1, 0), two are known", last.ask(1, 0), 2);
    }
}
