/** Section 3 of the terms, promises 18 to 21 and 32: rows of one man, and what lies there. */
public final class RowsTest {
    private static final int NOWHERE = -1000000;
    private static final String KINDS = "kind a;kind b;kind c;";
    private static final String PURSES = KINDS + "man m crop 1;purse m a 6;purse m b 6;purse m c 6;";

    public static void main(String[] args) {
        byWhatIsNow();
        nothingIsDone();
        rowByPurse();
        rowByHours();
        bestGreatest();
        bestBesides();
        bestFewest();
        bestFirst();
        best();
        bestRefused();
        bestLies();
        leaks();
        leaksRefused();
        goodGreatest();
        good();
        goodRefused();
        goodLies();
        needsFewest();
        needs();
        needsRefused();
        needsLies();
        lies();
        liesNone();
        Due.end();
    }

    private static void byWhatIsNow() {
        Due.says("T3", "(By what is now;");
        WeatherWages x = Mills.of("kind a;man m crop 1;man n crop 1;purse m a 9;purse n a 9;hedge m 0;hours 4;"
            + "grow 9 - (first - 5 - week) * (first - 5 - week);");
        Due.is("best(0, 1)", x.best(0, 1), 4);
        x.spend(1, 0, 2);
        Due.is("best(0, 1) over 2", x.best(0, 1), 3);
        Due.is("needs(0, 9) over 2", x.needs(0, 9), 3);
        x.spend(0, 0, 2);
        Due.is("best(0, 1) over 4", x.best(0, 1), 1);
        Due.is("best(0, 0) over 4", x.best(0, 0), 9);
        Due.is("good(0, 0) over 4", x.good(0, 0), 18);
        x.undo();
        x.undo();
        Due.is("best(0, 1) behind undo()", x.best(0, 1), 4);
        x.week();
        Due.is("best(0, 0) in week 1", x.best(0, 0), 5);
        x.give(0, 1, 0, 8);
        Due.is("best(0, 1) of a purse of 1", x.best(0, 1), 1);
    }

    private static void nothingIsDone() {
        Due.says("T3", "nothing is done.");
        WeatherWages x = Mills.of("kind a;kind b;man m crop 1 loose;man n crop 1;purse m a 9;purse n b 9;hedge m 2;"
            + "grow first * 2 + second;draw 5;pay m a 1;rate a 1 for b 2;rate b 1 for a 2;");
        x.spend(0, 0, 1);
        x.spend(1, 1, 2);
        x.undo();
        String state = Mills.state(x);
        int[] answers = {x.best(0, 0), x.good(1, 0), x.needs(0, 3), x.pool(0, 1), x.joint(1, 0), x.leaks(0), x.rest(),
            x.will(0, 9), x.thrive(0, 9), x.saves(0, 0, 50), x.richest(), x.gulf(), x.most(0), x.gain(0), x.lies(0)};
        Due.holds("the state is as it was", Mills.state(x).equals(state));
        int[] due = {2, 2, 0, 2, 0, 5, 6, 1, 1, 0, 0, 0, 3};
        for (int what = 0; what < due.length; what++) {
            Due.is("about(" + what + ")", x.about(what), due[what]);
        }
        int[] again = {x.best(0, 0), x.good(1, 0), x.needs(0, 3), x.pool(0, 1), x.joint(1, 0), x.leaks(0), x.rest(),
            x.will(0, 9), x.thrive(0, 9), x.saves(0, 0, 50), x.richest(), x.gulf(), x.most(0), x.gain(0), x.lies(0)};
        for (int i = 0; i < answers.length; i++) {
            Due.is("answer " + i + " again", again[i], answers[i]);
        }
        Due.is("redo()", x.redo(), true);
    }

    private static void rowByPurse() {
        Due.says("T3", "A ROW of a MAN: hours of each KIND, no more than his purse has,");
        WeatherWages x = Mills.of(KINDS + "man m crop 1;man n crop 1;man o crop 1;purse m a 8;purse m b 8;purse m c 8;"
            + "purse n a 1;purse n b 2;purse n c 3;purse o b 5;hours 8;");
        Due.is("best(1, 0)", x.best(1, 0), 6);
        Due.lie("best(1, 0)", x, 1, 2, 3);
        Due.is("best(2, 0)", x.best(2, 0), 5);
        Due.lie("best(2, 0)", x, 0, 5, 0);
        Due.is("good(1, 1)", x.good(1, 1), 6);
        Due.is("needs(1, 6)", x.needs(1, 6), 6);
        Due.is("needs(1, 7)", x.needs(1, 7), -1);
        x.spend(2, 1, 5);
        Due.is("best(2, 1) of an empty purse", x.best(2, 1), 0);
        Due.lie("best(2, 1) of an empty purse", x, 0, 0, 0);
    }

    private static void rowByHours() {
        Due.says("T3", "together no more than hours less what he SPENT.");
        for (int hours = 1; hours <= 8; hours++) {
            WeatherWages x = Mills.of(PURSES + "hours " + hours + ";");
            Due.is("best(0, 1) of " + hours, x.best(0, 1), hours);
            Due.is("needs(0, " + hours + ")", x.needs(0, hours), hours);
            Due.is("needs(0, " + (hours + 1) + ")", x.needs(0, hours + 1), -1);
            x.spend(0, 0, 1);
            Due.is("best(0, 1) of one less", x.best(0, 1), hours - 1);
            Due.is("best(0, 0) of one less", x.best(0, 0), hours);
            Due.is("needs(0, " + hours + ")", x.needs(0, hours), hours - 1);
            for (int spent = 1; spent < hours; spent++) {
                x.spend(0, 1 + spent % 2, 1);
            }
            Due.is("best(0, 1) of none", x.best(0, 1), 0);
            Due.is("good(0, 1) of none", x.good(0, 1), 0);
            Due.lie("good(0, 1) of none", x, 0, 0, 0);
        }
    }

    private static void bestGreatest() {
        Due.says("T3", "BEST of a MAN: the ROW that, spent besides, makes his GROWTH greatest;");
        for (int man = 0; man < 3; man++) {
            WeatherWages x = Mills.of("kind a;kind b;man m crop 1;man n crop 1;man o crop 1;purse m a 4;purse m b 3;"
                + "purse n a 4;purse n b 3;purse o a 4;purse o b 3;hours 5;grow first * 2 + second - plot * 30;");
            Due.is("best(" + man + ", 0)", x.best(man, 0), Math.max(-20, 9 - 30 * man));
            if (man == 0) {
                Due.lie("best(0, 0)", x, 4, 1);
            } else {
                Due.lie("best(" + man + ", 0), all -20", x, 0, 0);
            }
        }
        WeatherWages last = Mills.of(KINDS + "man m crop 1;man n crop 1;purse n a 8;purse n b 8;purse n c 8;hours 8;"
            + "grow first * 2 + second;");
        Due.is("best(1, 0), the last row", last.best(1, 0), 16);
        Due.lie("best(1, 0), the last row", last, 8, 0, 0);
        WeatherWages less = Mills.of(PURSES + "grow 0 - 20 + first * (first > 5);");
        Due.is("best(0, 0) below 0", less.best(0, 0), -14);
        Due.lie("best(0, 0) below 0", less, 6, 0, 0);
        WeatherWages own = Mills.of("kind a;man m crop 1;man n crop 1;hedge m 0;purse m a 3;grow first * (1 - 9 * plot);");
        Due.is("best(0, 0), whatever becomes of others", own.best(0, 0), 3);
    }

    private static void bestBesides() {
        WeatherWages x = Mills.of("kind a;man m crop 1;purse m a 9;hours 4;grow 9 - (first - 5) * (first - 5);");
        x.spend(0, 0, 3);
        Due.is("best(0, 1) with 1 left", x.best(0, 1), 1);
        Due.is("best(0, 0) with 1 left", x.best(0, 0), 8);
    }

    private static void bestFewest() {
        Due.says("T3", "of like ones the fewest hours; of like ones the first (KIND by KIND, the fewest first).");
        WeatherWages fewest = Mills.of(PURSES + "grow (first + second + third > 2) * 5;");
        Due.is("best(0, 1), the fewest", fewest.best(0, 1), 3);
        Due.lie("the fewest, then the first", fewest, 0, 0, 3);
        WeatherWages late = Mills.of(PURSES + "grow second + second + third = 6;");
        Due.is("best(0, 1), the fewest is not the first", late.best(0, 1), 3);
        Due.lie("best(0, 1), the fewest is not the first", late, 0, 3, 0);
        WeatherWages bound = Mills.of(PURSES + "hours 8;grow first * 7 + second;");
        Due.is("best(0, 0), bound", bound.best(0, 0), 20);
        Due.is("best(0, 1), bound", bound.best(0, 1), 3);
        Due.lie("bound", bound, 3, 0, 0);
        WeatherWages most = Mills.of(PURSES + "hours 8;grow first + second * 2 + third * 2 - (third > 2) * 9;");
        Due.is("best(0, 1), all hours", most.best(0, 1), 8);
        Due.lie("all hours", most, 0, 6, 2);
    }

    private static void bestFirst() {
        WeatherWages third = Mills.of(PURSES + "hours 2;grow first + second + third;");
        third.best(0, 0);
        Due.lie("the fewest of the first kinds", third, 0, 0, 2);
        WeatherWages second = Mills.of(PURSES + "hours 2;grow first + second + (third = 1);");
        second.best(0, 0);
        Due.lie("of the second kind", second, 0, 1, 1);
        WeatherWages none = Mills.of(PURSES + "grow 0 - first - second;");
        Due.is("best(0, 0), none", none.best(0, 0), 0);
        Due.lie("none", none, 0, 0, 0);
        WeatherWages pair = Mills.of(PURSES + "hours 3;grow first * second + second * third + first * third;");
        Due.is("best(0, 0), one of each", pair.best(0, 0), 3);
        Due.lie("one of each", pair, 1, 1, 1);
        WeatherWages two = Mills.of(PURSES + "hours 2;grow first * second + second * third + first * third;");
        Due.is("best(0, 0), two of three", two.best(0, 0), 1);
        Due.lie("two of three", two, 0, 1, 1);
    }

    private static void best() {
        Due.says("18", "BEST what 0: GROWTH then, 1: hours;");
        WeatherWages x = Mills.of("kind a;kind b;man m crop 1;man n crop 1;purse m a 4;purse m b 3;purse n b 2;hours 5;"
            + "grow first * 2 + second;");
        Due.is("best(0, 0)", x.best(0, 0), 9);
        Due.is("best(0, 1)", x.best(0, 1), 5);
        Due.is("best(1, 0)", x.best(1, 0), 2);
        Due.is("best(1, 1)", x.best(1, 1), 2);
        WeatherWages y = Mills.of("man m crop 1;grow 3;");
        Due.is("best(0, 0) without kinds", y.best(0, 0), 3);
        Due.is("best(0, 1) without kinds", y.best(0, 1), 0);
    }

    private static void bestRefused() {
        Due.says("18", "-1000000 if one can't be.");
        WeatherWages x = Mills.of("kind a;man m crop 1;man n crop 1;purse m a 4;");
        for (int wild : Mills.WILD) {
            Due.is("best(" + wild + ", 0)", x.best(wild, 0), NOWHERE);
            Due.is("best(" + wild + ", 1)", x.best(wild, 1), NOWHERE);
            Due.is("best(0, " + wild + ")", x.best(0, wild), NOWHERE);
        }
        Due.is("best(2, 0)", x.best(2, 0), NOWHERE);
        Due.is("best(0, 2)", x.best(0, 2), NOWHERE);
        Due.is("best(0, 0) of nothing told", new WeatherWages().best(0, 0), NOWHERE);
    }

    private static void bestLies() {
        Due.says("18", "The ROW lies there then (behind -1000000: nothing).");
        WeatherWages x = Mills.of("kind a;kind b;man m crop 1;man n crop 1;purse m a 4;purse m b 3;purse n b 2;hours 5;"
            + "grow first * 2 + second;");
        x.best(0, 0);
        Due.lie("best(0, 0)", x, 4, 1);
        x.best(1, 1);
        Due.lie("best(1, 1)", x, 0, 2);
        x.best(0, 1);
        Due.lie("best(0, 1)", x, 4, 1);
        for (int wild : Mills.WILD) {
            x.best(0, 0);
            x.best(wild, 0);
            Due.lie("best(" + wild + ", 0)", x);
            x.best(0, 0);
            x.best(0, wild);
            Due.lie("best(0, " + wild + ")", x);
        }
        x.best(0, 0);
        x.best(0, 2);
        Due.lie("best(0, 2)", x);
        x.best(0, 0);
        x.best(2, 0);
        Due.lie("best(2, 0)", x);
        WeatherWages y = Mills.of("man m crop 1;");
        y.best(0, 0);
        Due.lie("best(0, 0) without kinds", y);
        WeatherWages z = Mills.of("kind a;man m crop 1;");
        z.best(0, 0);
        Due.lie("best(0, 0) of one kind", z, 0);
    }

    private static void leaks() {
        Due.says("19", "By how much all others' GROWTHS together are more by his BEST;");
        WeatherWages x = Mills.of("kind a;man m crop 1;man n crop 1;man o crop 1;man p crop 1;purse n a 3;purse p a 1;"
            + "hedge m 0;hedge n 5;hedge o 0;grow first * 2 * (1 - 2 * (plot = 0));");
        Due.is("leaks(0)", x.leaks(0), 0);
        Due.is("leaks(1)", x.leaks(1), -4);
        Due.is("leaks(2)", x.leaks(2), 0);
        Due.is("leaks(3)", x.leaks(3), 2);
        x.best(1, 0);
        x.leaks(0);
        Due.lie("leaks", x, 3);
        x.spend(1, 0, 1);
        Due.is("leaks(1) behind one hour", x.leaks(1), -2);
        WeatherWages crops = Mills.of("kind a;man m crop 4;man n crop 7;hedge m 5;purse m a 8;hours 6;"
            + "grow first * crop - week;");
        Due.is("leaks(0) by crops", crops.leaks(0), 14);
        crops.spend(0, 0, 2);
        Due.is("leaks(0) by crops, over 2", crops.leaks(0), 14 - 7);
        crops.week();
        Due.is("leaks(0) by crops of week 1", crops.leaks(0), 14);
        WeatherWages two = Mills.of("kind a;man m crop 1;man n crop 1;man o crop 1;hedge m 0;hedge n 0;purse n a 5;grow 3 + first;");
        Due.is("leaks(1) to both", two.leaks(1), 10);
        WeatherWages alone = Mills.of("kind a;man m crop 1;purse m a 5;");
        Due.is("leaks(0), alone", alone.leaks(0), 0);
        WeatherWages bound = Mills.of("kind a;man m crop 1;man n crop 1;hedge m 0;purse m a 5;grow 18 * plot + first;");
        Due.is("leaks(0), 20 at most", bound.leaks(0), 2);
        String three = "kind a;man m crop 1;man n crop 1;man o crop 1;hedge m 0;hedge n 0;purse n a 8;hours 8;";
        Due.is("leaks(1), as much as can be", Mills.of(three + "grow first * 5 - 20;").leaks(1), 80);
        Due.is("leaks(1), much less", Mills.of(three + "grow first * 5 * (1 - 2 * (not plot = 1));").leaks(1), -40);
    }

    private static void leaksRefused() {
        Due.says("19", "-1000000 if there is none such.");
        WeatherWages x = Mills.of("kind a;man m crop 1;man n crop 1;purse m a 4;");
        for (int wild : Mills.WILD) {
            Due.is("leaks(" + wild + ")", x.leaks(wild), NOWHERE);
        }
        Due.is("leaks(2)", x.leaks(2), NOWHERE);
        Due.is("leaks(0) of nothing told", new WeatherWages().leaks(0), NOWHERE);
    }

    private static void goodGreatest() {
        Due.says("T3", "GOOD of a MAN: likewise, that makes all GROWTHS together greatest.");
        String men = "kind a;man m crop 1;man n crop 1;purse m a 3;purse n a 3;grow first * (2 - 5 * plot);";
        WeatherWages open = Mills.of(men + "hedge m 0;");
        Due.is("good(0, 0)", open.good(0, 0), 0);
        Due.lie("good(0, 0)", open, 0);
        WeatherWages half = Mills.of(men + "hedge m 5;");
        Due.is("good(0, 0)", half.good(0, 0), 3);
        Due.lie("good(0, 0)", half, 3);
        Due.is("good(1, 0)", half.good(1, 0), 0);
        half.spend(1, 0, 2);
        Due.is("good(0, 0) with hours over others", half.good(0, 0), -1);
        WeatherWages like = Mills.of("kind a;kind b;man m crop 1;man n crop 1;man o crop 1;purse n a 2;purse n b 2;"
            + "hedge m 0;hedge n 0;hours 3;grow first + second;");
        Due.is("good(1, 0)", like.good(1, 0), 9);
        Due.lie("of like ones the first", like, 1, 2);
        WeatherWages fewest = Mills.of(PURSES + "man n crop 1;hedge m 0;grow (first + second + third > 1) * 4 + plot;");
        Due.is("good(0, 0)", fewest.good(0, 0), 9);
        Due.lie("of like ones the fewest hours", fewest, 0, 0, 2);
        WeatherWages far = Mills.of("kind a;man m crop 1;man n crop 1;man o crop 1;man p crop 1;man q crop 1;purse m a 5;"
            + "grow first + plot;");
        Due.is("good(0, 0), all five", far.good(0, 0), 15);
    }

    private static void good() {
        Due.says("20", "GOOD what 0: all GROWTHS together then, 1: hours;");
        WeatherWages x = Mills.of("kind a;man m crop 1;man n crop 1;purse m a 3;purse n a 2;hedge m 0;grow first * 2;");
        Due.is("good(0, 0)", x.good(0, 0), 12);
        Due.is("good(0, 1)", x.good(0, 1), 3);
        Due.is("good(1, 0)", x.good(1, 0), 8);
        Due.is("good(1, 1)", x.good(1, 1), 2);
        WeatherWages y = Mills.of("man m crop 1;man n crop 1;grow 3 + plot;");
        Due.is("good(0, 0) without kinds", y.good(0, 0), 7);
        String five = "kind a;man m crop 1;man n crop 1;man o crop 1;man p crop 1;man q crop 1;purse q a 1;";
        Due.is("good(4, 0), as much as can be", Mills.of(five + "grow 20;").good(4, 0), 100);
        Due.is("good(4, 0), as little as can be", Mills.of(five + "grow 0 - 20;").good(4, 0), -100);
        Due.is("good(0, 1) without kinds", y.good(0, 1), 0);
    }

    private static void goodRefused() {
        Due.says("20", "-1000000 if one can't be.");
        WeatherWages x = Mills.of("kind a;man m crop 1;man n crop 1;purse m a 4;");
        for (int wild : Mills.WILD) {
            Due.is("good(" + wild + ", 0)", x.good(wild, 0), NOWHERE);
            Due.is("good(" + wild + ", 1)", x.good(wild, 1), NOWHERE);
            Due.is("good(0, " + wild + ")", x.good(0, wild), NOWHERE);
        }
        Due.is("good(2, 0)", x.good(2, 0), NOWHERE);
        Due.is("good(0, 2)", x.good(0, 2), NOWHERE);
        Due.is("good(0, 0) of nothing told", new WeatherWages().good(0, 0), NOWHERE);
    }

    private static void goodLies() {
        Due.says("20", "The ROW lies there then (behind -1000000: nothing).");
        WeatherWages x = Mills.of("kind a;kind b;man m crop 1;man n crop 1;purse m a 4;purse m b 3;purse n b 2;hours 5;"
            + "grow first * 2 + second;");
        x.good(0, 0);
        Due.lie("good(0, 0)", x, 4, 1);
        x.good(1, 1);
        Due.lie("good(1, 1)", x, 0, 2);
        for (int wild : Mills.WILD) {
            x.good(0, 0);
            x.good(wild, 0);
            Due.lie("good(" + wild + ", 0)", x);
            x.good(0, 0);
            x.good(0, wild);
            Due.lie("good(0, " + wild + ")", x);
        }
        x.good(0, 0);
        x.good(0, 2);
        Due.lie("good(0, 2)", x);
        x.good(0, 0);
        x.good(2, 0);
        Due.lie("good(2, 0)", x);
    }

    private static void needsFewest() {
        Due.says("T3", "NEEDS: the ROW of the fewest hours by which his GROWTH is so much at least; of like ones the first.");
        WeatherWages x = Mills.of("kind a;kind b;man m crop 1;man n crop 1;purse n a 2;purse n b 5;hours 6;"
            + "grow first * 3 + second * 2;");
        Due.is("needs(1, 1)", x.needs(1, 1), 1);
        Due.lie("needs(1, 1)", x, 0, 1);
        Due.is("needs(1, 3)", x.needs(1, 3), 1);
        Due.lie("needs(1, 3)", x, 1, 0);
        Due.is("needs(1, 7)", x.needs(1, 7), 3);
        Due.lie("needs(1, 7)", x, 1, 2);
        Due.is("needs(1, 8)", x.needs(1, 8), 3);
        Due.lie("needs(1, 8)", x, 2, 1);
        Due.is("needs(1, 14)", x.needs(1, 14), 6);
        Due.lie("needs(1, 14)", x, 2, 4);
        Due.is("needs(1, 0)", x.needs(1, 0), 0);
        Due.lie("needs(1, 0)", x, 0, 0);
        x.spend(1, 0, 2);
        Due.is("needs(1, 7) over 2", x.needs(1, 7), 1);
        Due.lie("needs(1, 7) over 2", x, 0, 1);
        WeatherWages more = Mills.of(PURSES + "grow first * 9 + second * 5;");
        Due.is("needs(0, 4), more than so much", more.needs(0, 4), 1);
        Due.lie("needs(0, 4), the first", more, 0, 1, 0);
    }

    private static void needs() {
        Due.says("21", "NEEDS (-20 .. 20): how many hours;");
        WeatherWages y = Mills.of("kind a;man m crop 1;purse m a 9;hours 8;grow first * 5;");
        Due.is("needs(0, 20)", y.needs(0, 20), 4);
        Due.is("needs(0, 19)", y.needs(0, 19), 4);
        Due.is("needs(0, -20)", y.needs(0, -20), 0);
        WeatherWages low = Mills.of("kind a;man m crop 1;purse m a 9;hours 8;grow first * 5 - 40;");
        Due.is("needs(0, -20), from far below", low.needs(0, -20), 0);
        Due.is("needs(0, -19), from far below", low.needs(0, -19), 5);
        Due.is("needs(0, 0), from far below", low.needs(0, 0), 8);
    }

    private static void needsRefused() {
        Due.says("21", "NONE if none is enough, or one can't be.");
        WeatherWages x = Mills.of("kind a;man m crop 1;man n crop 1;purse m a 9;purse n a 2;hours 8;grow first * 5;");
        Due.is("needs(1, 10)", x.needs(1, 10), 2);
        Due.is("needs(1, 11)", x.needs(1, 11), -1);
        Due.is("needs(0, 20)", x.needs(0, 20), 4);
        Due.is("needs(0, 21)", x.needs(0, 21), -1);
        Due.is("needs(0, -21)", x.needs(0, -21), -1);
        Due.is("needs(0, max)", x.needs(0, Integer.MAX_VALUE), -1);
        Due.is("needs(0, min)", x.needs(0, Integer.MIN_VALUE), -1);
        for (int wild : Mills.WILD) {
            Due.is("needs(" + wild + ", 0)", x.needs(wild, 0), -1);
        }
        Due.is("needs(2, 0)", x.needs(2, 0), -1);
        Due.is("needs(0, 0) of nothing told", new WeatherWages().needs(0, 0), -1);
    }

    private static void needsLies() {
        Due.says("21", "The ROW lies there then (behind NONE: nothing).");
        WeatherWages x = Mills.of("kind a;kind b;man m crop 1;man n crop 1;purse m a 1;purse m b 1;purse n b 9;"
            + "grow first * 5 + second;");
        x.needs(0, 6);
        Due.lie("needs(0, 6)", x, 1, 1);
        x.needs(1, 3);
        Due.lie("needs(1, 3)", x, 0, 3);
        x.needs(0, -20);
        Due.lie("needs(0, -20)", x, 0, 0);
        int[][] refused = {{0, 7}, {1, 7}, {0, 21}, {0, -21}, {2, 0}, {-1, 0}};
        for (int[] one : refused) {
            x.needs(0, 6);
            Due.is("needs(" + one[0] + ", " + one[1] + ")", x.needs(one[0], one[1]), -1);
            Due.lie("needs(" + one[0] + ", " + one[1] + ")", x);
        }
    }

    private static void lies() {
        Due.says("32", "The i-th number of what lies there;");
        WeatherWages x = Mills.of(KINDS + "man m crop 1;man n crop 1;purse m a 1;purse n b 2;purse n c 1;"
            + "grow first + second * 2 + third * 3;");
        Due.lie("nothing yet", x);
        x.pool(0, 1);
        int[] due = {0, 0, 1, 1, 2, 0};
        for (int i = 0; i < due.length; i++) {
            Due.is("lies(" + i + ")", x.lies(i), due[i]);
        }
        x.week();
        x.undo();
        x.image(0);
        x.back(0);
        x.later(1);
        x.will(0, 3);
        x.thrive(0, 3);
        x.gain(0);
        x.saves(0, 0, 3);
        Due.lie("other calls leave it", x, 0, 0, 1, 1, 2, 0);
        x.rest();
        Due.lie("rest", x, 1, 3);
        x.best(0, 0);
        Due.lie("best", x, 1, 0, 0);
    }

    private static void liesNone() {
        Due.says("32", "NONE if there is none such.");
        WeatherWages x = Mills.of("kind a;man m crop 1;man n crop 1;purse m a 1;");
        for (int i : new int[] {-1, 0, 1, Integer.MIN_VALUE, Integer.MAX_VALUE}) {
            Due.is("lies(" + i + ") of nothing", x.lies(i), -1);
        }
        x.pool(0, 1);
        x.best(0, 0);
        Due.is("lies(0)", x.lies(0), 1);
        for (int i : new int[] {-1, 1, 2, 5, 6, Integer.MIN_VALUE, Integer.MAX_VALUE}) {
            Due.is("lies(" + i + ") of one", x.lies(i), -1);
        }
    }
}
