/** Section 2 of the terms, promises 12 to 14: hours that are spent, given, changed. */
public final class ActsTest {
    private static final String MILL = "kind a;kind b;man m crop 10;man n crop 20;man o crop 30;"
        + "purse m a 9;purse m b 1;purse n a 60;purse o b 60;hedge m 5;hedge n 0;hours 8;";
    private static final String FIVE = "kind a;kind b;kind c;man m crop 1;man n crop 1;man o crop 1;man p crop 1;"
        + "man q crop 1;";

    public static void main(String[] args) {
        ofHisPurse();
        spendNumbers();
        spendAnswers();
        spendRefused();
        spendAct();
        toAnother();
        giveNumbers();
        giveAnswers();
        giveRefused();
        giveAct();
        asARateTells();
        changeAnswers();
        changeRefused();
        changeAct();
        Due.end();
    }

    /** Five men, three kinds: purse(man, kind) is 10 times the man and the kind, and 7. */
    private static String full() {
        StringBuilder text = new StringBuilder(FIVE);
        for (int man = 0; man < 5; man++) {
            for (int kind = 0; kind < 3; kind++) {
                text.append("purse " + "mnopq".charAt(man) + " " + "abc".charAt(kind) + " " + (10 * man + kind + 7) + ";");
            }
        }
        return text.toString();
    }

    /** All purses are as they were told but for two, which have so many hours more. */
    private static void purses(WeatherWages x, String call, int man, int kind, int more, int other, int kind2, int more2) {
        for (int m = 0; m < 5; m++) {
            for (int k = 0; k < 3; k++) {
                int due = 10 * m + k + 7 + (m == man && k == kind ? more : 0) + (m == other && k == kind2 ? more2 : 0);
                Due.is(call + ": purse(" + m + ", " + k + ")", x.purse(m, k), due);
            }
        }
    }

    private static void ofHisPurse() {
        Due.says("T2", "ACTS: hours are spent by a MAN, of what is in his purse, with those SPENT no more than hours tells;");
        WeatherWages x = Mills.of(MILL);
        Due.is("spend(0, 1, 2) of 1", x.spend(0, 1, 2), -1);
        Due.is("spend(0, 1, 1) of 1", x.spend(0, 1, 1), 1);
        Due.is("spend(0, 1, 1) of none", x.spend(0, 1, 1), -1);
        Due.is("spend(0, 0, 8) with 1 spent", x.spend(0, 0, 8), -1);
        Due.is("spend(0, 0, 7) with 1 spent", x.spend(0, 0, 7), 7);
        Due.is("spend(0, 0, 1) with 8 spent", x.spend(0, 0, 1), -1);
        Due.is("spend(1, 0, 8)", x.spend(1, 0, 8), 8 + 7 / 2);
        Due.is("spend(2, 0, 1) of none", x.spend(2, 0, 1), -1);
        for (int hours = 1; hours <= 8; hours++) {
            WeatherWages y = Mills.of("kind a;man m crop 1;purse m a 60;hours " + hours + ";");
            Due.is("one more than " + hours, y.spend(0, 0, hours + 1), -1);
            Due.is("all of " + hours, y.spend(0, 0, hours), hours);
            Due.is("one besides", y.spend(0, 0, 1), -1);
        }
        WeatherWages z = Mills.of("kind a;man m crop 1;purse m a 60;");
        Due.is("spend(0, 0, 7), hours not told", z.spend(0, 0, 7), -1);
        Due.is("spend(0, 0, 6), hours not told", z.spend(0, 0, 6), 6);
    }

    private static void spendNumbers() {
        Due.says("12", "Hours (1 .. 8) are spent:");
        for (int man = 0; man < 5; man++) {
            for (int kind = 0; kind < 3; kind++) {
                WeatherWages x = Mills.of(full());
                Due.is("spend", x.spend(man, kind, 3), 3);
                purses(x, "spend(" + man + ", " + kind + ", 3)", man, kind, -3, 0, 0, 0);
                for (int m = 0; m < 5; m++) {
                    Due.is("man(" + m + ", 1)", x.man(m, 1), m == man ? 3 : 0);
                    for (int k = 0; k < 3; k++) {
                        Due.is("over(" + m + ", " + k + ")", x.over(m, k), m == man && k == kind ? 3 : 0);
                    }
                }
            }
        }
        WeatherWages y = Mills.of(full() + "hours 8;");
        for (int n : new int[] {Integer.MIN_VALUE, -1, 0, 9, 10, 47, Integer.MAX_VALUE}) {
            Due.is("spend(4, 0, " + n + ")", y.spend(4, 0, n), -1);
        }
        Due.is("spend(4, 0, 1)", y.spend(4, 0, 1), 1);
        y.undo();
        Due.is("spend(4, 0, 8)", y.spend(4, 0, 8), 8);
    }

    private static void spendAnswers() {
        Due.says("12", "how many of that KIND are OVER his plot then;");
        WeatherWages x = Mills.of(MILL);
        Due.is("spend(1, 0, 2)", x.spend(1, 0, 2), 2);
        Due.is("spend(0, 0, 3), one of a neighbour's over it", x.spend(0, 0, 3), 4);
        Due.is("spend(0, 0, 1)", x.spend(0, 0, 1), 5);
        Due.is("spend(0, 1, 1)", x.spend(0, 1, 1), 1);
        Due.is("spend(2, 1, 4)", x.spend(2, 1, 4), 4);
        Due.is("over(1, 1)", x.over(1, 1), 4);
    }

    private static void spendRefused() {
        Due.says("12", "NONE, doing nothing, if they can't be.");
        WeatherWages x = Mills.of(full() + "rate a 1 for b 1;");
        x.spend(1, 1, 1);
        x.undo();
        for (int wild : Mills.WILD) {
            Due.is("spend(" + wild + ", 0, 1)", x.spend(wild, 0, 1), -1);
            Due.is("spend(0, " + wild + ", 1)", x.spend(0, wild, 1), -1);
            Due.is("spend(wild)", x.spend(wild, wild, wild), -1);
        }
        Due.is("spend(0, 3, 1)", x.spend(0, 3, 1), -1);
        Due.is("spend(0, 0, 0)", x.spend(0, 0, 0), -1);
        Due.is("spend(0, 0, -1)", x.spend(0, 0, -1), -1);
        Due.is("spend(0, 0, 9)", x.spend(0, 0, 9), -1);
        Due.is("spend(0, 0, 7)", x.spend(0, 0, 7), -1);
        purses(x, "refused", 0, 0, 0, 0, 0, 0);
        Due.is("all(0, 1)", x.all(0, 1), 0);
        Due.is("man(0, 1)", x.man(0, 1), 0);
        Due.is("about(7)", x.about(7), 0);
        Due.is("about(8)", x.about(8), 1);
        Due.is("redo()", x.redo(), true);
        WeatherWages few = Mills.of("kind a;man m crop 1;purse m a 2;man n crop 1;purse n a 9;");
        Due.is("spend(0, 0, 3) of 2", few.spend(0, 0, 3), -1);
        Due.is("spend(0, 1, 1) of no such kind", few.spend(0, 1, 1), -1);
        Due.is("spend(2, 0, 1) of no such man", few.spend(2, 0, 1), -1);
        Due.is("about(7)", few.about(7), 0);
        Due.is("spend(0, 0, 1) of nothing told", new WeatherWages().spend(0, 0, 1), -1);
        behindTheLast();
    }

    /** There is no man behind the last one, no kind behind the last one, whatever lies there. */
    private static void behindTheLast() {
        String all = "purse m a 9;purse m b 9;purse m c 9;purse q a 9;purse q b 9;purse q c 9;rate a 1 for b 1;"
            + "rate b 1 for c 1;rate c 1 for a 1;rate a 1 for c 1;hedge m 0;";
        WeatherWages x = Mills.of(FIVE + all);
        for (int kind = 0; kind < 3; kind++) {
            x.spend(0, kind, 2);
            x.spend(4, kind, 2);
        }
        for (int man = -6; man <= 20; man++) {
            for (int kind = -3; kind <= 6; kind++) {
                if (man < 0 || man > 4 || kind < 0 || kind > 2) {
                    String pair = "(" + man + ", " + kind + ")";
                    Due.is("spend" + pair, x.spend(man, kind, 1), -1);
                }
            }
        }
        x = Mills.of(FIVE + all);
        x.spend(0, 0, 3);
        for (int man = -6; man <= 20; man++) {
            boolean there = man >= 0 && man <= 4;
            Due.is("give(" + man + ")", there || x.give(man, 1, 0, 1) == -1, true);
            Due.is("give to " + man, there || x.give(0, man, 0, 1) == -1, true);
            Due.is("change(" + man + ", 0, 1)", there || x.change(man, 0, 1) == -1, true);
            Due.is("change(" + man + ", 2, 0)", there || x.change(man, 2, 0) == -1, true);
        }
        for (int kind = -6; kind <= 20; kind++) {
            boolean there = kind >= 0 && kind <= 2;
            Due.is("give(0, 1, " + kind + ", 1)", there || x.give(0, 1, kind, 1) == -1, true);
            Due.is("change(0, " + kind + ", 1)", there || x.change(0, kind, 1) == -1, true);
            Due.is("change(0, 0, " + kind + ")", there || x.change(0, 0, kind) == -1, true);
            Due.is("change(4, 1, " + kind + ")", there || x.change(4, 1, kind) == -1, true);
        }
        Due.is("about(7)", x.about(7), 1);
    }

    private static void spendAct() {
        Due.says("12", "(An ACT.)");
        WeatherWages x = Mills.of(MILL);
        x.spend(0, 0, 5);
        Due.is("about(7)", x.about(7), 1);
        Due.is("over(1, 0)", x.over(1, 0), 2);
        Due.is("undo()", x.undo(), true);
        Due.is("purse(0, 0)", x.purse(0, 0), 9);
        Due.is("over(0, 0)", x.over(0, 0), 0);
        Due.is("over(1, 0)", x.over(1, 0), 0);
        Due.is("left(0)", x.left(0), 8);
        Due.is("redo()", x.redo(), true);
        Due.is("purse(0, 0)", x.purse(0, 0), 4);
        Due.is("over(1, 0)", x.over(1, 0), 2);
        Due.is("left(0)", x.left(0), 3);
    }

    private static void toAnother() {
        Due.says("T2", "hours are given to another MAN;");
        for (int man = 0; man < 5; man++) {
            for (int other = 0; other < 5; other++) {
                for (int kind = 0; kind < 3; kind++) {
                    WeatherWages x = Mills.of(full());
                    int due = man == other ? -1 : 10 * other + kind + 10;
                    Due.is("give(" + man + ", " + other + ", " + kind + ", 3)", x.give(man, other, kind, 3), due);
                    int n = man == other ? 0 : 3;
                    purses(x, "give(" + man + ", " + other + ", " + kind + ", 3)", man, kind, -n, other, kind, n);
                    Due.is("all(" + kind + ", 1)", x.all(kind, 1), 0);
                    Due.is("left(" + man + ")", x.left(man), 6);
                }
            }
        }
    }

    private static void giveNumbers() {
        Due.says("13", "Hours (1 .. 99) are given:");
        WeatherWages x = Mills.of("kind a;man m crop 1;man n crop 1;purse m a 60;pay m a 9;");
        for (int week = 0; week < 5; week++) {
            x.week();
        }
        Due.is("purse(0, 0)", x.purse(0, 0), 99);
        for (int n : new int[] {Integer.MIN_VALUE, -99, -1, 0, 100, 101, Integer.MAX_VALUE}) {
            Due.is("give(0, 1, 0, " + n + ")", x.give(0, 1, 0, n), -1);
            Due.is("give(1, 0, 0, " + n + ")", x.give(1, 0, 0, n), -1);
        }
        Due.is("give(0, 1, 0, 99)", x.give(0, 1, 0, 99), 99);
        Due.is("purse(0, 0)", x.purse(0, 0), 0);
        Due.is("give(1, 0, 0, 1)", x.give(1, 0, 0, 1), 1);
    }

    private static void giveAnswers() {
        Due.says("13", "what the other one has of that KIND then (99 at most);");
        WeatherWages x = Mills.of(MILL);
        Due.is("give(0, 1, 0, 9)", x.give(0, 1, 0, 9), 69);
        Due.is("give(1, 2, 0, 60)", x.give(1, 2, 0, 60), 60);
        Due.is("give(1, 2, 0, 9)", x.give(1, 2, 0, 9), 69);
        Due.is("give(0, 2, 1, 1)", x.give(0, 2, 1, 1), 61);
        WeatherWages y = Mills.of("kind a;man m crop 1;man n crop 1;man o crop 1;purse m a 60;purse n a 60;purse o a 60;");
        Due.is("give(0, 1, 0, 38)", y.give(0, 1, 0, 38), 98);
        Due.is("give(0, 1, 0, 1)", y.give(0, 1, 0, 1), 99);
        Due.is("give(0, 1, 0, 1) to 99", y.give(0, 1, 0, 1), 99);
        Due.is("purse(0, 0)", y.purse(0, 0), 20);
        Due.is("give(2, 1, 0, 60) to 99", y.give(2, 1, 0, 60), 99);
        Due.is("purse(2, 0)", y.purse(2, 0), 0);
        Due.is("purse(1, 0)", y.purse(1, 0), 99);
    }

    private static void giveRefused() {
        Due.says("13", "NONE, doing nothing, if there are not so many, or one can't be (himself, too).");
        WeatherWages x = Mills.of(full());
        x.give(1, 2, 1, 1);
        x.undo();
        for (int wild : Mills.WILD) {
            Due.is("give(" + wild + ", 0, 0, 1)", x.give(wild, 0, 0, 1), -1);
            Due.is("give(0, " + wild + ", 0, 1)", x.give(0, wild, 0, 1), -1);
            Due.is("give(0, 1, " + wild + ", 1)", x.give(0, 1, wild, 1), -1);
            Due.is("give(wild)", x.give(wild, wild, wild, wild), -1);
        }
        Due.is("give(0, 1, 3, 1)", x.give(0, 1, 3, 1), -1);
        Due.is("give(0, 1, 0, 8) of 7", x.give(0, 1, 0, 8), -1);
        Due.is("give(4, 0, 2, 50) of 49", x.give(4, 0, 2, 50), -1);
        for (int man = 0; man < 5; man++) {
            Due.is("give(himself)", x.give(man, man, 0, 1), -1);
        }
        purses(x, "refused", 0, 0, 0, 0, 0, 0);
        Due.is("about(7)", x.about(7), 0);
        Due.is("redo()", x.redo(), true);
        Due.is("give(0, 1, 0, 7) of 7", x.give(0, 1, 0, 7), 24);
        Due.is("give(0, 1, 0, 1) of none", x.give(0, 1, 0, 1), -1);
        WeatherWages two = Mills.of("kind a;man m crop 1;man n crop 1;purse m a 9;");
        Due.is("give(0, 2, 0, 1)", two.give(0, 2, 0, 1), -1);
        Due.is("give(2, 0, 0, 1)", two.give(2, 0, 0, 1), -1);
        Due.is("give(0, 1, 1, 1)", two.give(0, 1, 1, 1), -1);
        Due.is("give of nothing told", new WeatherWages().give(0, 1, 0, 1), -1);
    }

    private static void giveAct() {
        Due.says("13", "(An ACT.)");
        WeatherWages x = Mills.of(MILL);
        x.give(1, 2, 0, 3);
        Due.is("about(7)", x.about(7), 1);
        Due.is("undo()", x.undo(), true);
        Due.is("purse(2, 0)", x.purse(2, 0), 0);
        Due.is("purse(1, 0)", x.purse(1, 0), 60);
        Due.is("redo()", x.redo(), true);
        Due.is("purse(2, 0)", x.purse(2, 0), 3);
        Due.is("purse(1, 0)", x.purse(1, 0), 57);
    }

    private static void asARateTells() {
        Due.says("T2", "hours of a KIND are changed for those of another one, once, as a rate tells;");
        String rates = "rate a 2 for b 3;rate a 4 for c 5;rate b 6 for a 7;rate b 1 for c 8;rate c 9 for a 1;rate c 3 for b 2;";
        int[][] given = {{0, 2, 4}, {6, 0, 1}, {9, 3, 0}};
        int[][] got = {{0, 3, 5}, {7, 0, 8}, {1, 2, 0}};
        for (int man = 0; man < 5; man++) {
            for (int kind = 0; kind < 3; kind++) {
                for (int other = 0; other < 3; other++) {
                    WeatherWages x = Mills.of(full() + rates);
                    int there = 10 * man + other + 7 + got[kind][other];
                    String call = "change(" + man + ", " + kind + ", " + other + ")";
                    Due.is(call, x.change(man, kind, other), kind == other ? -1 : there);
                    purses(x, call, man, kind, -given[kind][other], man, other, got[kind][other]);
                    Due.is("left(" + man + ")", x.left(man), 6);
                }
            }
        }
    }

    private static void changeAnswers() {
        Due.says("14", "Hours are changed: what he has of the second KIND then (99 at most);");
        WeatherWages x = Mills.of("kind a;kind b;kind c;man m crop 1;purse m a 7;purse m b 60;rate a 3 for b 9;"
            + "rate b 2 for c 1;");
        Due.is("change(0, 0, 1)", x.change(0, 0, 1), 69);
        Due.is("purse(0, 0)", x.purse(0, 0), 4);
        Due.is("change(0, 0, 1)", x.change(0, 0, 1), 78);
        Due.is("change(0, 1, 2)", x.change(0, 1, 2), 1);
        Due.is("purse(0, 1)", x.purse(0, 1), 76);
        WeatherWages y = Mills.of("kind a;kind b;man m crop 1;purse m a 50;purse m b 60;rate a 1 for b 9;");
        for (int n = 1; n <= 4; n++) {
            Due.is("change", y.change(0, 0, 1), 60 + 9 * n);
        }
        Due.is("change at 96", y.change(0, 0, 1), 99);
        Due.is("change at 99", y.change(0, 0, 1), 99);
        Due.is("purse(0, 0)", y.purse(0, 0), 44);
    }

    private static void changeRefused() {
        Due.says("14", "NONE, doing nothing, if no rate tells it, he has not so many, or one can't be.");
        WeatherWages x = Mills.of("kind a;kind b;kind c;man m crop 1;man n crop 1;purse m a 7;purse m b 1;purse n c 60;"
            + "rate a 3 for b 9;rate b 2 for c 1;");
        x.change(0, 0, 1);
        x.undo();
        Due.is("change(0, 1, 0), the other way round", x.change(0, 1, 0), -1);
        Due.is("change(0, 0, 0)", x.change(0, 0, 0), -1);
        Due.is("change(0, 0, 2), no rate", x.change(0, 0, 2), -1);
        Due.is("change(1, 2, 0), no rate", x.change(1, 2, 0), -1);
        Due.is("change(0, 1, 2), 1 of 2", x.change(0, 1, 2), -1);
        Due.is("change(1, 0, 1), none of 3", x.change(1, 0, 1), -1);
        for (int wild : Mills.WILD) {
            Due.is("change(" + wild + ", 0, 1)", x.change(wild, 0, 1), -1);
            Due.is("change(0, " + wild + ", 1)", x.change(0, wild, 1), -1);
            Due.is("change(0, 0, " + wild + ")", x.change(0, 0, wild), -1);
            Due.is("change(wild)", x.change(wild, wild, wild), -1);
        }
        Due.is("change(2, 0, 1)", x.change(2, 0, 1), -1);
        Due.is("change(0, 3, 1)", x.change(0, 3, 1), -1);
        Due.is("change(0, 0, 3)", x.change(0, 0, 3), -1);
        Due.is("purse(0, 0)", x.purse(0, 0), 7);
        Due.is("purse(0, 1)", x.purse(0, 1), 1);
        Due.is("all(2, 0)", x.all(2, 0), 60);
        Due.is("about(7)", x.about(7), 0);
        Due.is("redo()", x.redo(), true);
        Due.is("purse(0, 0)", x.purse(0, 0), 4);
        WeatherWages last = Mills.of("kind a;kind b;man m crop 1;purse m a 3;rate a 3 for b 9;");
        Due.is("change(0, 0, 1), 3 of 3", last.change(0, 0, 1), 9);
        Due.is("purse(0, 0)", last.purse(0, 0), 0);
        Due.is("change(0, 0, 1), none of 3", last.change(0, 0, 1), -1);
        WeatherWages less = Mills.of("kind a;kind b;man m crop 1;purse m a 2;rate a 3 for b 9;");
        Due.is("change(0, 0, 1), 2 of 3", less.change(0, 0, 1), -1);
    }

    private static void changeAct() {
        Due.says("14", "(An ACT.)");
        WeatherWages x = Mills.of("kind a;kind b;man m crop 1;purse m a 7;rate a 3 for b 2;");
        x.change(0, 0, 1);
        Due.is("about(7)", x.about(7), 1);
        Due.is("undo()", x.undo(), true);
        Due.is("purse(0, 0)", x.purse(0, 0), 7);
        Due.is("purse(0, 1)", x.purse(0, 1), 0);
        Due.is("redo()", x.redo(), true);
        Due.is("purse(0, 0)", x.purse(0, 0), 4);
        Due.is("purse(0, 1)", x.purse(0, 1), 2);
    }
}
