/** Section 3 of the terms, promises 22 to 24: POOL, what it is more, REST. */
public final class PoolTest {
    private static final int NOWHERE = -1000000;
    private static final String TWO = "kind a;kind b;man m crop 1;man n crop 1;";

    public static void main(String[] args) {
        bothPurses();
        threeHours();
        hoursLessSpent();
        together();
        fewest();
        first();
        pool();
        poolRefused();
        poolLies();
        joint();
        jointInTurn();
        jointRefused();
        nobodyAtFirst();
        inTurn();
        rounds();
        twentyRounds();
        restAnswers();
        restRefused();
        restLies();
        oneBehindTheOther();
        Due.end();
    }

    private static void bothPurses() {
        Due.says("T3", "POOL of two MEN: what is in both purses is for both;");
        WeatherWages x = Mills.of(TWO + "purse m a 2;grow first * first;");
        Due.is("pool(0, 1)", x.pool(0, 1), 4);
        Due.lie("pool(0, 1)", x, 0, 0, 2, 0);
        WeatherWages y = Mills.of("kind a;man m crop 1;man n crop 1;purse m a 4;purse n a 1;grow first;");
        Due.is("pool(0, 1), no more than both have", y.pool(0, 1), 5);
        Due.lie("pool(0, 1), no more than both have", y, 2, 3);
        WeatherWages kinds = Mills.of("kind a;kind b;kind c;man m crop 1;man n crop 1;purse m b 2;purse n c 1;"
            + "grow first * 9 + second * 3 + third * 5;");
        Due.is("pool(0, 1) of two kinds", kinds.pool(0, 1), 11);
        Due.lie("pool(0, 1) of two kinds", kinds, 0, 0, 0, 0, 2, 1);
        WeatherWages far = Mills.of("kind a;man m crop 1;man n crop 1;man o crop 1;man p crop 1;man q crop 1;purse m a 1;"
            + "purse n a 60;purse q a 2;");
        Due.is("pool(0, 4), the purses of the two alone", far.pool(0, 4), 3);
        Due.is("pool(4, 0), the purses of the two alone", far.pool(4, 0), 3);
        Due.is("pool(1, 4)", far.pool(1, 4), 6);
        WeatherWages full = Mills.of("kind a;man m crop 1;man n crop 1;purse m a 60;purse n a 60;pay m a 9;pay n a 9;");
        for (int week = 0; week < 5; week++) {
            full.week();
        }
        Due.is("pool(0, 1) of full purses", full.pool(0, 1), 6);
    }

    private static void threeHours() {
        Due.says("T3", "each spends 3 hours at most (and no more than hours less what he SPENT),");
        String men = "kind a;man m crop 1;man n crop 1;man o crop 1;purse m a 9;purse n a 9;purse o a 9;grow first;";
        WeatherWages three = Mills.of(men + "hours 8;");
        Due.is("pool(0, 1)", three.pool(0, 1), 6);
        Due.lie("pool(0, 1)", three, 3, 3);
        for (int hours = 1; hours <= 8; hours++) {
            int each = Math.min(3, hours);
            WeatherWages x = Mills.of(men + "hours " + hours + ";");
            Due.is("pool(0, 1) of " + hours, x.pool(0, 1), 2 * each);
            Due.lie("pool(0, 1) of " + hours, x, each, each);
        }
        WeatherWages open = Mills.of(men + "hours 2;hedge m 0;");
        Due.is("pool(0, 1), neighbours", open.pool(0, 1), 8);
        Due.is("pool(0, 2), no neighbours", open.pool(0, 2), 4);
        WeatherWages kinds = Mills.of("kind a;kind b;kind c;man m crop 1;man n crop 1;purse m a 5;purse m b 5;purse n c 5;"
            + "hours 8;");
        Due.is("pool(0, 1) of three kinds", kinds.pool(0, 1), 6);
        Due.lie("pool(0, 1) of three kinds", kinds, 0, 0, 3, 0, 1, 2);
    }

    private static void hoursLessSpent() {
        String men = "kind a;man m crop 1;man n crop 1;purse m a 20;purse n a 20;grow first;hours 8;";
        for (int spent = 1; spent <= 8; spent++) {
            WeatherWages x = Mills.of(men);
            x.spend(0, 0, spent);
            int left = Math.min(3, 8 - spent);
            Due.is("pool(0, 1), " + spent + " spent", x.pool(0, 1), spent + left + 3);
            Due.lie("pool(0, 1), " + spent + " spent", x, left, 3);
            Due.is("pool(1, 0), " + spent + " spent", x.pool(1, 0), spent + left + 3);
            Due.lie("pool(1, 0), " + spent + " spent", x, 3, left);
            WeatherWages y = Mills.of(men);
            y.spend(1, 0, spent);
            Due.is("pool(1, 0), " + spent + " spent by the one", y.pool(1, 0), spent + left + 3);
            Due.lie("pool(1, 0), " + spent + " spent by the one", y, left, 3);
            Due.is("pool(0, 1), " + spent + " spent by the other", y.pool(0, 1), spent + left + 3);
            Due.lie("pool(0, 1), " + spent + " spent by the other", y, 3, left);
        }
    }

    private static void together() {
        Due.says("T3", "so that their GROWTHS together are greatest;");
        WeatherWages x = Mills.of("kind a;man m crop 1;man n crop 1;man o crop 1;hedge m 0;hedge n 0;purse m a 3;"
            + "grow first * (5 - 2 * plot);");
        Due.is("pool(0, 1)", x.pool(0, 1), 15 + 9);
        Due.is("pool(0, 2), whatever becomes of the one between", x.pool(0, 2), 15);
        WeatherWages y = Mills.of("kind a;man m crop 1;man n crop 1;hedge m 5;purse m a 3;grow first * (2 - 6 * plot);");
        Due.is("pool(0, 1), nothing is best but one", y.pool(0, 1), 2);
        Due.lie("pool(0, 1), nothing is best but one", y, 1, 0);
        Due.is("pool(0, 1) of losses", Mills.of("kind a;man m crop 1;man n crop 1;purse m a 3;grow 0 - 3 - first;").pool(0, 1),
            -6);
    }

    private static void fewest() {
        Due.says("T3", "of like ones the fewest hours; of like ones the first (the first MAN's KIND by KIND, then the other "
            + "one's).");
        WeatherWages x = Mills.of("kind a;kind b;man m crop 1;man n crop 1;purse m a 9;purse n b 9;hedge m 0;"
            + "grow first + second > 1;");
        Due.is("pool(0, 1)", x.pool(0, 1), 2);
        Due.lie("the fewest, then the first", x, 0, 0, 0, 2);
        WeatherWages apart = Mills.of("kind a;man m crop 1;man n crop 1;purse m a 9;purse n a 9;grow 5 * (first > plot);");
        Due.is("pool(0, 1), each some", apart.pool(0, 1), 10);
        Due.lie("pool(0, 1), each some", apart, 1, 2);
        WeatherWages none = Mills.of(TWO + "purse m a 9;purse n b 9;grow 0 - first;");
        Due.is("pool(0, 1), none", none.pool(0, 1), 0);
        Due.lie("pool(0, 1), none", none, 0, 0, 0, 0);
        WeatherWages other = Mills.of(TWO + "purse n a 3;purse n b 3;grow plot * 5 * (first > 0 or second > 1);");
        Due.is("pool(0, 1), the other one's fewest", other.pool(0, 1), 5);
        Due.lie("pool(0, 1), the other one's fewest", other, 0, 0, 1, 0);
        Due.is("pool(1, 0), the one's fewest", other.pool(1, 0), 5);
        Due.lie("pool(1, 0), the one's fewest", other, 1, 0, 0, 0);
        WeatherWages both = Mills.of("kind a;man m crop 1;man n crop 1;purse m a 3;purse n a 3;hedge m 5;"
            + "grow 5 * (first > 1 - plot);");
        Due.is("pool(0, 1), two of one rather than three of both", both.pool(0, 1), 10);
        Due.lie("pool(0, 1), two of one rather than three of both", both, 2, 0);
        Due.is("pool(1, 0), two of one rather than three of both", both.pool(1, 0), 10);
        Due.lie("pool(1, 0), two of one rather than three of both", both, 0, 2);
    }

    private static void first() {
        WeatherWages z = Mills.of("kind a;kind b;man m crop 1;man n crop 1;purse m a 1;purse n b 1;"
            + "grow first * 2 * plot + second * (1 - plot) - first * second;");
        Due.is("pool(0, 1)", z.pool(0, 1), 3);
        Due.lie("pool(0, 1)", z, 0, 1, 1, 0);
        Due.is("pool(1, 0)", z.pool(1, 0), 3);
        Due.lie("pool(1, 0)", z, 1, 0, 0, 1);
        WeatherWages like = Mills.of(TWO + "purse m a 1;purse n a 1;purse m b 1;grow first + second;hours 2;");
        Due.is("pool(0, 1) of like ones", like.pool(0, 1), 3);
        Due.lie("pool(0, 1) of like ones", like, 0, 1, 2, 0);
        Due.is("pool(1, 0) of like ones", like.pool(1, 0), 3);
        Due.lie("pool(1, 0) of like ones", like, 0, 1, 2, 0);
        WeatherWages one = Mills.of(TWO + "purse m a 1;purse m b 1;grow first or second;hedge m 0;");
        Due.is("pool(0, 1), one hour for both", one.pool(0, 1), 2);
        Due.lie("pool(0, 1), one hour for both", one, 0, 0, 0, 1);
    }

    private static void pool() {
        Due.says("22", "POOL: their GROWTHS together;");
        String five = "kind a;man m crop 1;man n crop 1;man o crop 1;man p crop 1;man q crop 1;purse m a 1;purse n a 2;"
            + "purse o a 3;purse p a 4;purse q a 5;";
        WeatherWages x = Mills.of(five + "grow first + plot;");
        for (int man = 0; man < 5; man++) {
            for (int other = 0; other < 5; other++) {
                int due = Math.min(6, man + other + 2) + man + other;
                Due.is("pool(" + man + ", " + other + ")", x.pool(man, other), man == other ? NOWHERE : due);
            }
        }
        WeatherWages none = Mills.of("man m crop 1;man n crop 1;grow 4 + plot;");
        Due.is("pool(0, 1) without kinds", none.pool(0, 1), 9);
        Due.lie("pool(0, 1) without kinds", none);
    }

    private static void poolRefused() {
        Due.says("22", "-1000000 if one can't be (himself, too).");
        WeatherWages x = Mills.of(TWO + "purse m a 2;");
        for (int wild : Mills.WILD) {
            Due.is("pool(" + wild + ", 0)", x.pool(wild, 0), NOWHERE);
            Due.is("pool(0, " + wild + ")", x.pool(0, wild), NOWHERE);
            Due.is("pool(wild)", x.pool(wild, wild), NOWHERE);
        }
        Due.is("pool(0, 2)", x.pool(0, 2), NOWHERE);
        Due.is("pool(2, 0)", x.pool(2, 0), NOWHERE);
        Due.is("pool(0, 0)", x.pool(0, 0), NOWHERE);
        Due.is("pool(1, 1)", x.pool(1, 1), NOWHERE);
        Due.is("pool(0, 1) of nothing told", new WeatherWages().pool(0, 1), NOWHERE);
    }

    private static void poolLies() {
        Due.says("22", "Both ROWS lie there then, one behind the other (behind -1000000: nothing).");
        WeatherWages x = Mills.of("kind a;kind b;kind c;man m crop 1;man n crop 1;purse m a 1;purse n b 2;purse n c 1;"
            + "grow first * (plot = 0) * 3 + second * (plot = 1) * 2 + third * (plot = 1);");
        x.pool(0, 1);
        Due.lie("pool(0, 1)", x, 1, 0, 0, 0, 2, 1);
        x.pool(1, 0);
        Due.lie("pool(1, 0)", x, 0, 2, 1, 1, 0, 0);
        int[][] refused = {{0, 0}, {1, 1}, {0, 2}, {2, 0}, {-1, 0}, {0, -1}, {0, Integer.MAX_VALUE}};
        for (int[] two : refused) {
            x.pool(0, 1);
            x.pool(two[0], two[1]);
            Due.lie("pool(" + two[0] + ", " + two[1] + ")", x);
        }
        WeatherWages one = Mills.of("kind a;man m crop 1;man n crop 1;purse m a 3;purse n a 1;grow first * (1 + plot);");
        one.pool(0, 1);
        Due.lie("pool(0, 1) of one kind", one, 1, 3);
    }

    private static void joint() {
        Due.says("23", "What POOL is more than their GROWTHS together, if the one spends his BEST, then the other one his, "
            + "by what is OVER then;");
        String men = "kind a;man m crop 1;man n crop 1;";
        WeatherWages less = Mills.of(men + "purse m a 8;hours 8;grow first;");
        Due.is("joint(0, 1), three hours at most", less.joint(0, 1), -2);
        WeatherWages more = Mills.of(men + "purse m a 1;purse n a 3;hedge m 10;grow first * (1 + 4 * (plot = 0));");
        Due.is("joint(0, 1)", more.joint(0, 1), 8);
        Due.is("joint(1, 0)", more.joint(1, 0), 8);
        more.best(1, 0);
        more.joint(0, 1);
        Due.lie("joint", more, 3);
        WeatherWages apart = Mills.of(men + "purse m a 4;purse n a 4;hedge m 0;"
            + "grow (plot = 0) * (0 - (first - 4) * (first - 4)) + (plot = 1) * first;");
        Due.is("joint(0, 1), each for himself", apart.joint(0, 1), 12);
        WeatherWages far = Mills.of("kind a;man m crop 1;man n crop 1;man o crop 1;purse m a 3;purse o a 1;"
            + "grow first * (1 + plot * 2);");
        Due.is("joint(0, 2)", far.joint(0, 2), 16 - 8);
        Due.is("joint(0, 1)", far.joint(0, 1), 9 - 3);
        String two = men + "purse m a 3;purse n a 3;hedge m 0;grow ";
        WeatherWages much = Mills.of(two + "20 - 40 * (first < 6);");
        Due.is("pool(0, 1), as much as can be", much.pool(0, 1), 40);
        Due.lie("pool(0, 1), as much as can be", much, 3, 3);
        Due.is("joint(0, 1), as much as can be", much.joint(0, 1), 80);
        WeatherWages spoilt = Mills.of(two + "(plot = 0) * (first = 0) * 20 - (plot = 0) * (first > 0) * 20 "
            + "+ (plot = 1) * first - (plot = 1) * 20;");
        Due.is("pool(0, 1), nobody spends", spoilt.pool(0, 1), 0);
        Due.is("joint(0, 1), the other one spends all the same", spoilt.joint(0, 1), 20 + 17);
    }

    private static void jointInTurn() {
        String men = "kind a;man m crop 1;man n crop 1;";
        WeatherWages then = Mills.of(men + "purse m a 9;purse n a 9;hedge m 0;grow 0 - (first - 3) * (first - 3);");
        Due.is("joint(0, 1), by what is over then", then.joint(0, 1), 0);
        WeatherWages both = Mills.of("kind a;kind b;man m crop 1;man n crop 1;purse m a 1;purse n b 2;hedge m 0;"
            + "grow (plot = 0) * (5 * first - 2 * second) + (plot = 1) * 3 * second;");
        Due.is("joint(0, 1), by what comes back", both.joint(0, 1), 0);
        WeatherWages order = Mills.of(men + "purse m a 1;purse n a 1;hedge m 0;"
            + "grow (plot = 0) * (first > 0) * 5 + (plot = 1) * (first = 1) * (9 - 4) - (first > 1) * 3;");
        Due.is("joint(0, 1), the other one by what is over then", order.joint(0, 1), 0);
        WeatherWages turn = Mills.of(men + "purse m a 1;purse n a 2;hedge m 0;"
            + "grow (plot = 0) * (first = 1) * 7 + (plot = 1) * (first = 2) * 9;");
        Due.is("joint(0, 1), the one ahead", turn.joint(0, 1), 0);
        Due.is("joint(1, 0), the other one ahead", turn.joint(1, 0), 0);
        WeatherWages back = Mills.of(men + "purse m a 3;purse n a 3;hedge m 0;"
            + "grow (plot = 0) * (first = 2) * 4 + (plot = 1) * first * 2;");
        Due.is("joint(0, 1), spoilt by the other one", back.joint(0, 1), 12 - 10);
        Due.is("joint(1, 0), spoilt by nobody", back.joint(1, 0), 12 - 6);
    }

    private static void jointRefused() {
        Due.says("23", "-1000000 likewise.");
        WeatherWages x = Mills.of(TWO + "purse m a 2;");
        for (int wild : Mills.WILD) {
            Due.is("joint(" + wild + ", 0)", x.joint(wild, 0), NOWHERE);
            Due.is("joint(0, " + wild + ")", x.joint(0, wild), NOWHERE);
            Due.is("joint(wild)", x.joint(wild, wild), NOWHERE);
        }
        Due.is("joint(0, 2)", x.joint(0, 2), NOWHERE);
        Due.is("joint(2, 0)", x.joint(2, 0), NOWHERE);
        Due.is("joint(0, 0)", x.joint(0, 0), NOWHERE);
        Due.is("joint(1, 1)", x.joint(1, 1), NOWHERE);
        x.best(0, 0);
        x.joint(0, 0);
        Due.lie("joint(0, 0)", x, 2, 0);
        Due.is("joint(0, 1) of nothing told", new WeatherWages().joint(0, 1), NOWHERE);
    }

    private static void nobodyAtFirst() {
        Due.says("T3", "REST: nobody spends, at first;");
        WeatherWages still = Mills.of("kind a;man m crop 1;man n crop 1;hedge m 0;purse m a 3;grow 0 - first;");
        Due.is("rest() of nothing", still.rest(), 0);
        Due.lie("rest() of nothing", still, 0, 0);
        WeatherWages x = Mills.of("kind a;man m crop 1;man n crop 1;hedge m 0;purse m a 9;purse n a 9;hours 4;"
            + "grow 0 - (first - 8) * (first - 8);");
        x.spend(0, 0, 3);
        Due.is("rest() with 3 spent", x.rest(), 1);
        Due.lie("rest() with 3 spent", x, 1, 4);
        Due.is("over(0, 0)", x.over(0, 0), 3);
    }

    private static void inTurn() {
        Due.says("T3", "in a round, MAN by MAN, each spends his BEST in place of what he spent in the round ahead, by what "
            + "is OVER by all others then:");
        String men = "kind a;man m crop 1;man n crop 1;hedge m 0;";
        WeatherWages once = Mills.of(men + "purse m a 9;purse n a 9;grow 0 - (first - 3) * (first - 3);");
        Due.is("rest() by turns", once.rest(), 1);
        Due.lie("rest() by turns, the first one ahead", once, 3, 0);
        WeatherWages climb = Mills.of("kind a;kind b;man m crop 1;man n crop 1;hedge m 0;purse m a 9;purse n b 9;"
            + "hours 5;grow 0 - (first - second - 1 + plot) * (first - second - 1 + plot);");
        Due.is("rest() of a climb", climb.rest(), 5);
        Due.lie("rest() of a climb", climb, 5, 5);
        WeatherWages place = Mills.of(men + "purse m a 9;purse n a 2;grow 0 - (first - 3 - plot) * (first - 3 - plot);");
        Due.is("rest(), one in place of another", place.rest(), 3);
        Due.lie("rest(), one in place of another", place, 1, 2);
        WeatherWages kinds = Mills.of("kind a;kind b;man m crop 1;purse m a 2;purse m b 2;hours 3;grow first + second;");
        Due.is("rest() of one man", kinds.rest(), 1);
        Due.lie("rest() of one man", kinds, 3);
    }

    private static void rounds() {
        Due.says("T3", "the fewest rounds (0 .. 20) behind which one more changes nothing.");
        Due.is("rest() of all that stay", Mills.of("kind a;man m crop 1;purse m a 5;grow 3;").rest(), 0);
        for (int hours = 1; hours <= 8; hours++) {
            WeatherWages climb = Mills.of("kind a;kind b;man m crop 1;man n crop 1;hedge m 0;purse m a 9;purse n b 9;hours "
                + hours + ";grow 0 - (first - second - 1 + plot) * (first - second - 1 + plot);");
            Due.is("rest() of a climb of " + hours, climb.rest(), hours);
            Due.lie("rest() of a climb of " + hours, climb, hours, hours);
        }
    }

    private static void twentyRounds() {
        String men = "kind a;kind b;kind c;man m crop 1;man n crop 1;man o crop 1;man p crop 1;man q crop 1;hours 8;";
        WeatherWages twenty = Mills.of(men + "purse m a 3;purse m b 7;purse m c 5;purse n a 4;purse n b 4;purse n c 5;"
            + "hedge n 0;purse o c 6;hedge o 5;purse p a 4;purse p b 2;purse p c 4;hedge p 0;purse q c 7;"
            + "grow (third + 2 - first) % 6;");
        Due.is("rest() behind 20", twenty.rest(), 20);
        Due.is("about(13)", twenty.about(13), 5);
        WeatherWages more = Mills.of(men + "purse m a 1;purse m b 4;purse m c 3;hedge m 0;purse n a 8;purse n b 7;"
            + "purse n c 6;hedge n 0;purse o a 8;purse o b 8;purse o c 8;hedge o 0;purse p b 7;purse p c 3;hedge p 0;"
            + "hedge q 0;grow third * first % 10;");
        Due.is("rest() behind 21", more.rest(), -1);
        Due.lie("rest() behind 21", more);
    }

    private static void restAnswers() {
        Due.says("24", "REST: how many rounds;");
        Due.is("rest() of nothing told", new WeatherWages().rest(), 0);
        WeatherWages emptied = Mills.of("kind a;man m crop 1;man n crop 1;purse m a 3;purse n a 2;");
        Due.is("rest() of two", emptied.rest(), 1);
        emptied.mill();
        Due.is("rest() of an empty mill behind it", emptied.rest(), 0);
        Due.is("rest() without kinds", Mills.of("man m crop 1;man n crop 1;grow 3;").rest(), 0);
        Due.is("rest() without purses", Mills.of("kind a;man m crop 1;man n crop 1;").rest(), 0);
        Due.is("rest() of one that spends", Mills.of("kind a;man m crop 1;man n crop 1;purse n a 1;").rest(), 1);
    }

    private static void restRefused() {
        Due.says("24", "NONE if 20 are not enough.");
        WeatherWages never = Mills.of("kind a;man m crop 1;man n crop 1;hedge m 0;purse m a 1;purse n a 1;"
            + "grow first % 2 = plot;");
        Due.is("rest() of none", never.rest(), -1);
        Due.is("rest() of none again", never.rest(), -1);
        never.spend(0, 0, 1);
        Due.is("rest() with the one out of hours", never.rest(), 0);
    }

    private static void restLies() {
        Due.says("24", "How many hours each MAN spends then lies there (behind NONE: nothing).");
        WeatherWages x = Mills.of("kind a;kind b;kind c;man m crop 1;man n crop 1;man o crop 1;man p crop 1;man q crop 1;"
            + "purse m a 1;purse m b 2;purse n c 3;purse p a 1;purse p b 1;purse p c 2;purse q b 60;hours 5;");
        Due.is("rest()", x.rest(), 1);
        Due.lie("rest()", x, 3, 3, 0, 4, 5);
        WeatherWages never = Mills.of("kind a;man m crop 1;man n crop 1;hedge m 0;purse m a 1;purse n a 1;"
            + "grow first % 2 = plot;");
        never.best(0, 0);
        never.rest();
        Due.lie("rest() of none", never);
        WeatherWages nobody = new WeatherWages();
        nobody.rest();
        Due.lie("rest() of nobody", nobody);
        WeatherWages none = Mills.of("man m crop 1;man n crop 1;");
        none.rest();
        Due.lie("rest() without kinds", none, 0, 0);
    }

    /** What was looked for ahead leaves nothing behind. */
    private static void oneBehindTheOther() {
        WeatherWages x = Mills.of("kind a;man m crop 10;man n crop 10;purse m a 4;purse n a 4;hedge m 0;hours 4;"
            + "grow 9 - (first - 4) * (first - 4);");
        for (int round = 0; round < 2; round++) {
            x.rest();
            Due.lie("rest", x, 4, 0);
            Due.is("best(1, 1)", x.best(1, 1), 4);
            x.pool(0, 1);
            Due.is("good(1, 1)", x.good(1, 1), 4);
            x.rest();
            Due.is("needs(1, 9)", x.needs(1, 9), 4);
            x.rest();
            Due.is("leaks(1)", x.leaks(1), 16);
            Due.is("joint(1, 0)", x.joint(1, 0), 0);
            x.best(1, 1);
            Due.is("pool(0, 1)", x.pool(0, 1), 18);
            Due.lie("pool", x, 1, 3);
            x.rest();
            Due.is("thrive(1, 1)", x.thrive(1, 1), 19);
            x.pool(0, 1);
            Due.is("rest()", x.rest(), 1);
        }
    }
}
