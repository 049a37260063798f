/** Promises 18 to 24 and 32: rows that are best, and what lies there behind them. */
public final class RowsTest {
    private static final int NOWHERE = -1000000;
    private static final String TWO = "kind a;kind b;man m crop 1;man n crop 1;";

    public static void main(String[] args) {
        best();
        bestOfLikeOnes();
        bestByNow();
        leaks();
        good();
        needs();
        pool();
        poolLimits();
        joint();
        rest();
        restByNow();
        restOfManyRounds();
        nothingIsDone();
        oneBehindTheOther();
        lies();
        Due.end();
    }

    private static void best() {
        WeatherWages x = Mills.of(TWO + "purse m a 4;purse m b 3;purse n b 2;hours 5;grow first * 2 + second;");
        Due.is("best(0, 0)", x.best(0, 0), 9);
        Due.lie("best(0, 0)", x, 4, 1);
        Due.is("best(0, 1)", x.best(0, 1), 5);
        Due.is("best(1, 0)", x.best(1, 0), 2);
        Due.lie("best(1, 0)", x, 0, 2);
        Due.is("best(2, 0)", x.best(2, 0), NOWHERE);
        Due.lie("best(2, 0)", x);
        x.best(0, 1);
        Due.is("best(0, 2)", x.best(0, 2), NOWHERE);
        Due.lie("best(0, 2)", x);
        x.best(0, 1);
        Due.is("best(0, -1)", x.best(0, -1), NOWHERE);
        Due.lie("best(0, -1)", x);
        Due.is("best(-1, 0)", x.best(-1, 0), NOWHERE);
        WeatherWages y = Mills.of("man m crop 1;grow 3;");
        Due.is("best(0, 0) without kinds", y.best(0, 0), 3);
        Due.is("best(0, 1) without kinds", y.best(0, 1), 0);
        Due.lie("best(0, 1) without kinds", y);
    }

    private static void bestOfLikeOnes() {
        String purses = "kind a;kind b;kind c;man m crop 1;purse m a 6;purse m b 6;purse m c 6;";
        WeatherWages fewest = Mills.of(purses + "grow first + second > 2;");
        Due.is("best(0, 1), the fewest", fewest.best(0, 1), 3);
        Due.lie("the fewest, then the first", fewest, 0, 3, 0);
        WeatherWages first = Mills.of(purses + "hours 2;grow first + second + third;");
        Due.is("best(0, 0), the first", first.best(0, 0), 2);
        Due.lie("the first", first, 0, 0, 2);
        WeatherWages none = Mills.of(purses + "grow 0 - first - second;");
        Due.is("best(0, 0), none", none.best(0, 0), 0);
        Due.lie("none", none, 0, 0, 0);
        WeatherWages last = Mills.of("kind a;kind b;kind c;man m crop 1;purse m a 8;purse m b 8;purse m c 8;hours 8;"
            + "grow first * 2 + second;");
        Due.is("best(0, 0), the last row", last.best(0, 0), 16);
        Due.lie("the last row", last, 8, 0, 0);
        WeatherWages bound = Mills.of(purses + "hours 8;grow first * 7 + second;");
        Due.is("best(0, 0), bound", bound.best(0, 0), 20);
        Due.is("best(0, 1), bound", bound.best(0, 1), 3);
        Due.lie("bound", bound, 3, 0, 0);
        WeatherWages most = Mills.of(purses + "hours 8;grow first + second * 2 + third * 2 - (third > 2) * 9;");
        Due.is("best(0, 1), all hours", most.best(0, 1), 8);
        Due.lie("all hours", most, 0, 6, 2);
    }

    /** By what is over now, of what is left now. */
    private static void bestByNow() {
        WeatherWages x = Mills.of(TWO + "purse m a 9;purse n a 9;hedge m 0;hours 4;"
            + "grow 9 - (first - 5) * (first - 5);");
        x.spend(1, 0, 2);
        Due.is("best(0, 1) over 2", x.best(0, 1), 3);
        x.spend(0, 0, 2);
        Due.is("best(0, 1) over 4", x.best(0, 1), 1);
        Due.is("best(0, 0) over 4", x.best(0, 0), 9);
        x.undo();
        x.undo();
        x.spend(0, 0, 3);
        Due.is("best(0, 1) with 1 left", x.best(0, 1), 1);
        Due.is("best(0, 0) with 1 left", x.best(0, 0), 8);
    }

    private static void leaks() {
        WeatherWages x = Mills.of("kind a;man m crop 1;man n crop 1;man o crop 1;man p crop 1;purse n a 3;purse p a 1;"
            + "hedge m 0;hedge n 5;hedge o 0;grow first * 2 * (1 - 2 * (plot = 0));");
        Due.is("leaks(1)", x.leaks(1), -4);
        Due.is("leaks(3)", x.leaks(3), 2);
        Due.is("leaks(0)", x.leaks(0), 0);
        Due.is("leaks(4)", x.leaks(4), NOWHERE);
        Due.is("leaks(-1)", x.leaks(-1), NOWHERE);
        x.best(1, 0);
        x.leaks(0);
        Due.lie("leaks", x, 3);
        x.spend(1, 0, 1);
        Due.is("leaks(1) behind one hour", x.leaks(1), -2);
    }

    private static void good() {
        String men = "kind a;man m crop 1;man n crop 1;purse m a 3;purse n a 3;grow first * (2 - 5 * plot);";
        WeatherWages open = Mills.of(men + "hedge m 0;");
        Due.is("good(0, 0)", open.good(0, 0), 0);
        Due.lie("good(0, 0)", open, 0);
        Due.is("good(0, 1)", open.good(0, 1), 0);
        WeatherWages half = Mills.of(men + "hedge m 5;");
        Due.is("good(0, 0)", half.good(0, 0), 3);
        Due.lie("good(0, 0)", half, 3);
        Due.is("good(0, 1)", half.good(0, 1), 3);
        Due.is("good(1, 0)", half.good(1, 0), 0);
        half.good(0, 0);
        Due.is("good(0, 2)", half.good(0, 2), NOWHERE);
        Due.lie("good(0, 2)", half);
        half.good(0, 0);
        Due.is("good(2, 0)", half.good(2, 0), NOWHERE);
        Due.lie("good(2, 0)", half);
        Due.is("good(0, -1)", half.good(0, -1), NOWHERE);
        half.spend(1, 0, 2);
        Due.is("good(0, 0) with hours over others", half.good(0, 0), -1);
        WeatherWages like = Mills.of("kind a;kind b;man m crop 1;man n crop 1;man o crop 1;purse n a 2;purse n b 2;"
            + "hedge m 0;hedge n 0;hours 3;grow first + second;");
        Due.is("good(1, 0)", like.good(1, 0), 9);
        Due.lie("good(1, 0)", like, 1, 2);
    }

    private static void needs() {
        WeatherWages x = Mills.of("kind a;kind b;man m crop 1;purse m a 2;purse m b 5;hours 6;"
            + "grow first * 3 + second * 2;");
        Due.is("needs(0, 7)", x.needs(0, 7), 3);
        Due.lie("needs(0, 7)", x, 1, 2);
        Due.is("needs(0, 8)", x.needs(0, 8), 3);
        Due.lie("needs(0, 8)", x, 2, 1);
        Due.is("needs(0, 14)", x.needs(0, 14), 6);
        Due.lie("needs(0, 14)", x, 2, 4);
        Due.is("needs(0, 15)", x.needs(0, 15), -1);
        Due.lie("needs(0, 15)", x);
        Due.is("needs(0, 0)", x.needs(0, 0), 0);
        Due.lie("needs(0, 0)", x, 0, 0);
        Due.is("needs(0, -20)", x.needs(0, -20), 0);
        Due.is("needs(0, -21)", x.needs(0, -21), -1);
        Due.lie("needs(0, -21)", x);
        Due.is("needs(0, 20)", x.needs(0, 20), -1);
        Due.is("needs(0, 21)", x.needs(0, 21), -1);
        Due.is("needs(1, 0)", x.needs(1, 0), -1);
        Due.is("needs(-1, 0)", x.needs(-1, 0), -1);
        x.spend(0, 0, 2);
        Due.is("needs(0, 7) over 2", x.needs(0, 7), 1);
        Due.lie("needs(0, 7) over 2", x, 0, 1);
        WeatherWages y = Mills.of("kind a;man m crop 1;purse m a 9;hours 8;grow first * 5;");
        Due.is("needs(0, 20)", y.needs(0, 20), 4);
        Due.is("needs(0, 21)", y.needs(0, 21), -1);
    }

    private static void pool() {
        WeatherWages x = Mills.of(TWO + "purse m a 2;grow first * first;");
        Due.is("pool(0, 1)", x.pool(0, 1), 4);
        Due.lie("pool(0, 1)", x, 0, 0, 2, 0);
        Due.is("pool(1, 0)", x.pool(1, 0), 4);
        Due.lie("pool(1, 0)", x, 0, 0, 2, 0);
        Due.is("pool(0, 0)", x.pool(0, 0), NOWHERE);
        Due.lie("pool(0, 0)", x);
        x.pool(0, 1);
        Due.is("pool(0, 2)", x.pool(0, 2), NOWHERE);
        Due.lie("pool(0, 2)", x);
        Due.is("pool(2, 0)", x.pool(2, 0), NOWHERE);
        Due.is("pool(-1, 0)", x.pool(-1, 0), NOWHERE);
        Due.is("pool(0, -1)", x.pool(0, -1), NOWHERE);
        WeatherWages y = Mills.of("kind a;man m crop 1;man n crop 1;purse m a 4;purse n a 1;grow first;");
        Due.is("pool(0, 1)", y.pool(0, 1), 5);
        Due.lie("pool(0, 1)", y, 2, 3);
        WeatherWages z = Mills.of("kind a;kind b;man m crop 1;man n crop 1;purse m a 1;purse n b 1;"
            + "grow first * 2 * plot + second * (1 - plot) - first * second;");
        Due.is("pool(0, 1)", z.pool(0, 1), 3);
        Due.lie("pool(0, 1)", z, 0, 1, 1, 0);
        Due.is("pool(1, 0)", z.pool(1, 0), 3);
        Due.lie("pool(1, 0)", z, 1, 0, 0, 1);
    }

    private static void poolLimits() {
        String men = "kind a;man m crop 1;man n crop 1;man o crop 1;purse m a 9;purse n a 9;purse o a 9;grow first;";
        WeatherWages three = Mills.of(men + "hours 8;");
        Due.is("pool(0, 1)", three.pool(0, 1), 6);
        Due.lie("pool(0, 1)", three, 3, 3);
        three.spend(0, 0, 6);
        Due.is("pool(0, 1) with 2 left", three.pool(0, 1), 11);
        Due.lie("pool(0, 1) with 2 left", three, 2, 3);
        Due.is("pool(1, 0) with 2 left", three.pool(1, 0), 11);
        Due.lie("pool(1, 0) with 2 left", three, 3, 2);
        WeatherWages two = Mills.of(men + "hours 2;hedge m 0;");
        Due.is("pool(0, 1) of 2 hours", two.pool(0, 1), 8);
        Due.lie("pool(0, 1) of 2 hours", two, 2, 2);
        Due.is("pool(0, 2), no neighbours", two.pool(0, 2), 4);
        WeatherWages fewest = Mills.of("kind a;kind b;man m crop 1;man n crop 1;purse m a 9;purse n b 9;hedge m 0;"
            + "grow first + second > 1;");
        Due.is("pool(0, 1), the fewest", fewest.pool(0, 1), 2);
        Due.lie("pool(0, 1), the fewest", fewest, 0, 0, 0, 2);
    }

    private static void joint() {
        String men = "kind a;man m crop 1;man n crop 1;";
        WeatherWages less = Mills.of(men + "purse m a 8;hours 8;grow first;");
        Due.is("joint(0, 1)", less.joint(0, 1), -2);
        WeatherWages then = Mills.of(men + "purse m a 9;purse n a 9;hedge m 0;grow 0 - (first - 3) * (first - 3);");
        Due.is("joint(0, 1), by what is over then", then.joint(0, 1), 0);
        WeatherWages both = Mills.of("kind a;kind b;man m crop 1;man n crop 1;purse m a 1;purse n b 2;hedge m 0;"
            + "grow (plot = 0) * (5 * first - 2 * second) + (plot = 1) * 3 * second;");
        Due.is("joint(0, 1), by what comes back", both.joint(0, 1), 0);
        WeatherWages more = Mills.of(men + "purse m a 1;purse n a 3;hedge m 10;grow first * (1 + 4 * (plot = 0));");
        Due.is("joint(0, 1)", more.joint(0, 1), 8);
        Due.is("joint(1, 0)", more.joint(1, 0), 8);
        more.best(1, 0);
        Due.is("joint(0, 0)", more.joint(0, 0), NOWHERE);
        Due.is("joint(0, 2)", more.joint(0, 2), NOWHERE);
        Due.is("joint(-1, 0)", more.joint(-1, 0), NOWHERE);
        more.joint(0, 1);
        Due.lie("joint", more, 3);
        WeatherWages apart = Mills.of(men + "purse m a 4;purse n a 4;hedge m 0;"
            + "grow (plot = 0) * (0 - (first - 4) * (first - 4)) + (plot = 1) * first;");
        Due.is("joint(0, 1), each for himself", apart.joint(0, 1), 12);
        WeatherWages order = Mills.of("kind a;man m crop 1;man n crop 1;purse m a 2;purse n a 2;hedge m 0;"
            + "grow (first = 1 + plot) * 6;");
        Due.is("joint(0, 1), the one first", order.joint(0, 1), 0);
        Due.is("joint(1, 0), the one first", order.joint(1, 0), 0);
    }

    private static void rest() {
        String men = "kind a;man m crop 1;man n crop 1;hedge m 0;";
        WeatherWages still = Mills.of(men + "purse m a 3;grow 0 - first;");
        Due.is("rest() of nothing", still.rest(), 0);
        Due.lie("rest() of nothing", still, 0, 0);
        WeatherWages once = Mills.of(men + "purse m a 9;purse n a 9;grow 0 - (first - 3) * (first - 3);");
        Due.is("rest() by turns", once.rest(), 1);
        Due.lie("rest() by turns", once, 3, 0);
        WeatherWages climb = Mills.of("kind a;kind b;man m crop 1;man n crop 1;hedge m 0;purse m a 9;purse n b 9;"
            + "hours 5;grow 0 - (first - second - 1 + plot) * (first - second - 1 + plot);");
        Due.is("rest() of a climb", climb.rest(), 5);
        Due.lie("rest() of a climb", climb, 5, 5);
        WeatherWages never = Mills.of(men + "purse m a 1;purse n a 1;grow first % 2 = plot;");
        never.best(0, 0);
        Due.is("rest() of none", never.rest(), -1);
        Due.lie("rest() of none", never);
        WeatherWages kinds = Mills.of("kind a;kind b;man m crop 1;purse m a 2;purse m b 2;hours 3;grow first + second;");
        Due.is("rest() of one man", kinds.rest(), 1);
        Due.lie("rest() of one man", kinds, 3);
    }

    /** What is over now stays, and so does what was spent. */
    private static void restByNow() {
        WeatherWages x = Mills.of("kind a;man m crop 1;man n crop 1;hedge m 0;purse m a 9;purse n a 9;hours 4;"
            + "grow 0 - (first - 8) * (first - 8);");
        x.spend(0, 0, 3);
        Due.is("rest()", x.rest(), 1);
        Due.lie("rest()", x, 1, 4);
        Due.is("over(0, 0)", x.over(0, 0), 3);
    }

    private static void restOfManyRounds() {
        String men = "kind a;kind b;kind c;man m crop 1;man n crop 1;man o crop 1;man p crop 1;man q crop 1;hours 8;";
        WeatherWages twenty = Mills.of(men + "purse m a 3;purse m b 7;purse m c 5;purse n a 4;purse n b 4;purse n c 5;"
            + "hedge n 0;purse o c 6;hedge o 5;purse p a 4;purse p b 2;purse p c 4;hedge p 0;purse q c 7;"
            + "grow (third + 2 - first) % 6;");
        Due.is("rest() behind 20", twenty.rest(), 20);
        Due.is("about(13)", twenty.about(13), 5);
        WeatherWages more = Mills.of(men + "purse m a 1;purse m b 4;purse m c 3;hedge m 0;purse n a 8;purse n b 7;"
            + "purse n c 6;hedge n 0;purse o a 8;purse o b 8;purse o c 8;hedge o 0;purse p b 7;purse p c 3;hedge p 0;"
            + "hedge q 0;grow third * first % 10;");
        Due.is("rest() behind 21", more.rest(), -1);
        Due.lie("rest() behind 21", more);
    }

    private static void nothingIsDone() {
        WeatherWages x = Mills.of(TWO + "purse m a 9;purse n b 9;hedge m 2;grow first * 2 + second;draw 5;");
        x.best(0, 0);
        x.good(1, 0);
        x.needs(0, 3);
        x.pool(0, 1);
        x.joint(1, 0);
        x.leaks(0);
        x.rest();
        Due.is("purse(0, 0)", x.purse(0, 0), 9);
        Due.is("purse(1, 1)", x.purse(1, 1), 9);
        Due.is("all(0, 1)", x.all(0, 1), 0);
        Due.is("all(1, 1)", x.all(1, 1), 0);
        Due.is("left(0)", x.left(0), 6);
        Due.is("about(5)", x.about(5), 5);
        Due.is("about(7)", x.about(7), 0);
    }

    /** What was looked for ahead leaves nothing behind. */
    private static void oneBehindTheOther() {
        WeatherWages x = Mills.of("kind a;man m crop 10;man n crop 10;purse m a 4;purse n a 4;hedge m 0;hours 4;"
            + "grow 9 - (first - 4) * (first - 4);");
        for (int round = 0; round < 2; round++) {
            x.rest();
            Due.lie("rest", x, 4, 0);
            Due.is("best(1, 1)", x.best(1, 1), 4);
            x.pool(0, 1);
            Due.is("good(1, 1)", x.good(1, 1), 4);
            x.rest();
            Due.is("needs(1, 9)", x.needs(1, 9), 4);
            x.rest();
            Due.is("leaks(1)", x.leaks(1), 16);
            Due.is("joint(1, 0)", x.joint(1, 0), 0);
            x.best(1, 1);
            Due.is("pool(0, 1)", x.pool(0, 1), 18);
            Due.lie("pool", x, 1, 3);
            x.rest();
            Due.is("thrive(1, 1)", x.thrive(1, 1), 19);
        }
    }

    private static void lies() {
        WeatherWages x = Mills.of("kind a;kind b;kind c;man m crop 1;man n crop 1;purse m a 1;purse n b 2;purse n c 1;"
            + "grow first + second * 2 + third * 3;");
        x.pool(0, 1);
        Due.lie("pool", x, 0, 0, 1, 1, 2, 0);
        Due.is("lies(max)", x.lies(Integer.MAX_VALUE), -1);
        Due.is("lies(min)", x.lies(Integer.MIN_VALUE), -1);
        x.week();
        x.undo();
        x.image(0);
        x.back(0);
        x.later(1);
        x.will(0, 3);
        x.thrive(0, 3);
        Due.lie("other calls leave it", x, 0, 0, 1, 1, 2, 0);
        x.rest();
        Due.lie("rest", x, 1, 3);
        x.best(0, 0);
        Due.lie("best", x, 1, 0, 0);
    }
}
