/** Section 3 of the terms, promises 28 to 31: richest, gulf, most and GAIN. */
public final class PursesTest {
    private static final String KINDS = "kind a;kind b;kind c;";

    public static void main(String[] args) {
        richest();
        richestOfLikeOnes();
        richestNone();
        gulf();
        gulfNone();
        most();
        mostOfLikeOnes();
        mostNone();
        gain();
        gainOfLikeOnes();
        gainParts();
        gainLowest();
        gainKinds();
        gainNone();
        Due.end();
    }

    private static void richest() {
        Due.says("28", "The MAN of the most hours in his purse together;");
        WeatherWages x = Mills.of("kind a;kind b;man m crop 1;man n crop 99;man o crop 1;purse m a 3;purse n a 2;"
            + "purse n b 3;purse o b 4;");
        Due.is("richest()", x.richest(), 1);
        x.give(1, 2, 0, 1);
        Due.is("richest()", x.richest(), 2);
        x.give(2, 0, 1, 4);
        Due.is("richest()", x.richest(), 0);
        x.spend(0, 0, 3);
        x.spend(0, 1, 3);
        Due.is("richest(), what is spent is in no purse", x.richest(), 1);
        for (int man = 0; man < 5; man++) {
            WeatherWages five = Mills.of("kind a;kind b;kind c;man m crop 1;man n crop 1;man o crop 1;man p crop 1;"
                + "man q crop 1;purse m a 9;purse n b 9;purse o c 9;purse p a 9;purse q b 9;purse "
                + "mnopq".charAt(man) + (man < 3 ? " " + "bca".charAt(man) : " c") + " 1;");
            Due.is("richest() of five", five.richest(), man);
        }
    }

    private static void richestOfLikeOnes() {
        Due.says("28", "of like ones the first;");
        WeatherWages x = Mills.of("kind a;kind b;man m crop 1;man n crop 1;man o crop 1;purse n a 5;purse o b 5;");
        Due.is("richest()", x.richest(), 1);
        WeatherWages y = Mills.of("man m crop 1;man n crop 1;");
        Due.is("richest() without kinds", y.richest(), 0);
        WeatherWages z = Mills.of("kind a;man m crop 1;man n crop 1;");
        Due.is("richest() of empty purses", z.richest(), 0);
    }

    private static void richestNone() {
        Due.says("28", "NONE without MEN.");
        Due.is("richest() without men", Mills.of("kind a;book 1;").richest(), -1);
        Due.is("richest() of nothing told", new WeatherWages().richest(), -1);
    }

    private static void gulf() {
        Due.says("29", "How many hours more the purse of the most has than that of the fewest;");
        WeatherWages x = Mills.of("kind a;kind b;man m crop 1;man n crop 99;man o crop 1;purse m a 3;purse n a 2;"
            + "purse n b 3;purse o b 5;");
        Due.is("gulf()", x.gulf(), 2);
        x.give(1, 2, 0, 1);
        Due.is("gulf()", x.gulf(), 3);
        x.give(2, 0, 1, 5);
        Due.is("gulf()", x.gulf(), 7);
        Due.is("gulf() of one", Mills.of("kind a;man m crop 1;purse m a 9;").gulf(), 0);
        Due.is("gulf() without kinds", Mills.of("man m crop 1;man n crop 1;").gulf(), 0);
        Due.is("gulf() to the last", Mills.of("kind a;man m crop 1;man n crop 1;purse n a 9;").gulf(), 9);
        Due.is("gulf() to the first", Mills.of("kind a;man m crop 1;man n crop 1;purse m a 9;").gulf(), 9);
    }

    private static void gulfNone() {
        Due.says("29", "NONE without MEN.");
        Due.is("gulf() without men", Mills.of("kind a;").gulf(), -1);
        Due.is("gulf() of nothing told", new WeatherWages().gulf(), -1);
    }

    private static void most() {
        Due.says("30", "The KIND of which a MAN has the most hours;");
        WeatherWages x = Mills.of(KINDS + "man m crop 1;man n crop 1;man o crop 1;purse m a 1;purse m b 4;purse m c 3;"
            + "purse n c 1;purse o a 2;purse o b 1;");
        Due.is("most(0)", x.most(0), 1);
        Due.is("most(1)", x.most(1), 2);
        Due.is("most(2)", x.most(2), 0);
        x.spend(0, 1, 2);
        Due.is("most(0)", x.most(0), 2);
    }

    private static void mostOfLikeOnes() {
        Due.says("30", "of like ones the first;");
        WeatherWages x = Mills.of(KINDS + "man m crop 1;man n crop 1;man o crop 1;purse m b 4;purse m c 4;purse n a 4;"
            + "purse n c 4;");
        Due.is("most(0)", x.most(0), 1);
        Due.is("most(1)", x.most(1), 0);
        Due.is("most(2) of nothing", x.most(2), 0);
    }

    private static void mostNone() {
        Due.says("30", "NONE if there are no KINDS, or there is no such MAN.");
        Due.is("most(0) without kinds", Mills.of("man m crop 1;").most(0), -1);
        WeatherWages x = Mills.of("kind a;man m crop 1;man n crop 1;");
        for (int wild : Mills.WILD) {
            Due.is("most(" + wild + ")", x.most(wild), -1);
        }
        Due.is("most(1)", x.most(1), 0);
        Due.is("most(2)", x.most(2), -1);
        Due.is("most(0) of nothing told", new WeatherWages().most(0), -1);
    }

    private static void gainIs(String rates, int upper, int lower, int kinds) {
        WeatherWages x = Mills.of(rates);
        Due.is("gain(0) of " + rates, x.gain(0), upper);
        Due.is("gain(1) of " + rates, x.gain(1), lower);
        Due.is("gain(2) of " + rates, x.gain(2), kinds);
    }

    private static void gain() {
        Due.says("T3", "GAIN: going round two or three unlike KINDS by rates that are told: the greatest of what comes of 1 "
            + "(each for by its own number, as fractions);");
        gainIs(KINDS + "rate a 4 for b 6;rate b 2 for a 8;", 6, 1, 1);
        gainIs(KINDS + "rate c 4 for a 6;rate a 9 for c 8;", 4, 3, 2);
        gainIs(KINDS + "rate c 5 for b 7;rate b 3 for c 8;", 56, 15, 12);
        gainIs(KINDS + "rate a 1 for b 9;rate b 1 for c 9;rate c 1 for a 9;", 729, 1, 12);
        gainIs(KINDS + "rate a 2 for c 3;rate c 2 for b 3;rate b 2 for a 3;", 27, 8, 21);
        gainIs(KINDS + "rate a 1 for b 2;rate b 1 for c 2;rate c 1 for a 2;rate b 1 for a 5;", 10, 1, 1);
        gainIs(KINDS + "rate a 1 for b 2;rate b 1 for c 2;rate c 1 for a 3;rate b 1 for a 5;", 12, 1, 12);
        gainIs(KINDS + "rate a 8 for b 9;rate b 8 for a 9;rate a 9 for c 8;rate c 7 for a 9;", 81, 64, 1);
        gainIs(KINDS + "rate a 8 for b 9;rate b 8 for a 9;rate a 9 for c 8;rate c 6 for a 9;", 4, 3, 2);
        gainIs(KINDS + "rate a 1 for c 1;rate c 1 for b 3;rate b 3 for a 9;rate a 3 for b 1;rate b 3 for c 1;"
            + "rate c 9 for a 1;", 9, 1, 21);
        gainIs(KINDS + "rate a 9 for b 1;rate b 9 for a 1;", 1, 81, 1);
        gainIs(KINDS + "rate a 9 for b 1;rate b 9 for a 1;rate a 3 for c 1;rate c 3 for a 2;", 2, 9, 2);
        gainIs(KINDS + "rate a 9 for b 1;rate b 9 for c 1;rate c 9 for a 1;", 1, 729, 12);
    }

    private static void gainOfLikeOnes() {
        Due.says("T3", "of like ones the round of two ahead of those of three, then the first (by KINDS, begun at the "
            + "least).");
        gainIs(KINDS + "rate b 1 for c 2;rate c 1 for b 1;rate a 1 for c 2;rate c 2 for a 2;", 2, 1, 2);
        gainIs(KINDS + "rate a 1 for b 2;rate b 1 for c 1;rate c 1 for a 1;rate a 1 for c 1;rate c 2 for b 2;"
            + "rate b 1 for a 2;", 4, 1, 1);
        gainIs(KINDS + "rate a 1 for b 1;rate b 1 for c 2;rate c 1 for a 1;rate c 1 for b 1;", 2, 1, 12);
        gainIs(KINDS + "rate a 1 for b 2;rate b 1 for c 1;rate c 1 for a 1;rate a 1 for c 2;rate c 1 for b 1;"
            + "rate b 2 for a 1;", 2, 1, 2);
        gainIs(KINDS + "rate a 1 for b 1;rate b 1 for a 2;rate a 1 for c 2;rate c 1 for a 1;", 2, 1, 1);
        gainIs(KINDS + "rate a 1 for c 1;rate c 1 for b 1;rate b 1 for a 3;rate a 1 for b 1;rate b 1 for c 1;"
            + "rate c 1 for a 3;", 3, 1, 1);
        WeatherWages two = Mills.of(KINDS + "rate b 1 for c 2;rate c 1 for b 1;rate a 1 for b 2;rate c 2 for a 2;");
        Due.is("gain(2) of b with c and of a, b, c", two.gain(2), 12);
        Due.is("gain(0) of b with c and of a, b, c", two.gain(0), 4);
        gainIs(KINDS + "rate a 1 for b 2;rate b 2 for c 2;rate c 2 for a 1;rate a 1 for c 1;rate c 1 for b 1;"
            + "rate b 9 for a 9;", 2, 1, 1);
    }

    private static void gainParts() {
        Due.says("31", "GAIN what 0: the upper part,");
        WeatherWages x = Mills.of(KINDS + "rate c 5 for b 7;rate b 3 for c 8;");
        Due.is("gain(0)", x.gain(0), 56);
        Due.says("31", "1: the lower part,");
        Due.is("gain(1)", x.gain(1), 15);
        x.best(0, 0);
        Due.is("gain(1) again", x.gain(1), 15);
    }

    private static void gainLowest() {
        Due.says("31", "in lowest terms,");
        int[][] rates = {{2, 3, 3, 2, 1, 1}, {1, 9, 9, 9, 9, 1}, {4, 6, 6, 8, 2, 1}, {9, 1, 1, 9, 1, 1}, {8, 4, 4, 2, 1, 4},
            {7, 5, 9, 8, 40, 63}, {6, 9, 9, 6, 1, 1}, {5, 5, 7, 7, 1, 1}, {3, 9, 2, 8, 12, 1}};
        for (int[] rate : rates) {
            gainIs("kind a;kind b;rate a " + rate[0] + " for b " + rate[1] + ";rate b " + rate[2] + " for a " + rate[3] + ";",
                rate[4], rate[5], 1);
        }
        gainIs(KINDS + "rate a 9 for b 8;rate b 8 for c 9;rate c 6 for a 6;", 1, 1, 12);
        gainIs(KINDS + "rate a 6 for b 4;rate b 8 for c 9;rate c 9 for a 6;", 1, 2, 12);
    }

    /** One pair or three of rates alone, so that there is no other round. */
    private static void gainKinds() {
        Due.says("31", "2: the KINDS of that round (100 times the first, 10 times the second, and the third one; of two: 10 "
            + "times the first, and the second one);");
        gainIs(KINDS + "rate a 1 for b 1;rate b 1 for a 1;", 1, 1, 1);
        gainIs(KINDS + "rate a 1 for c 1;rate c 1 for a 1;", 1, 1, 2);
        gainIs(KINDS + "rate b 1 for c 1;rate c 1 for b 1;", 1, 1, 12);
        gainIs(KINDS + "rate a 1 for b 1;rate b 1 for c 1;rate c 1 for a 1;", 1, 1, 12);
        gainIs(KINDS + "rate b 1 for a 1;rate a 1 for c 1;rate c 1 for b 1;", 1, 1, 21);
    }

    private static void gainNone() {
        Due.says("31", "NONE if there is no round, or for another what.");
        String[] noRound = {"", "kind a;", KINDS, KINDS + "rate a 1 for b 2;", KINDS + "rate a 1 for b 2;rate b 1 for c 2;",
            KINDS + "rate a 1 for b 2;rate a 1 for c 2;rate b 1 for c 2;"};
        for (String text : noRound) {
            for (int what = -1; what <= 3; what++) {
                Due.is("gain(" + what + ") of " + text, Mills.of(text).gain(what), -1);
            }
        }
        WeatherWages x = Mills.of(KINDS + "rate a 1 for b 2;rate b 1 for a 2;");
        for (int what : new int[] {-1, 3, 4, Integer.MIN_VALUE, Integer.MAX_VALUE}) {
            Due.is("gain(" + what + ")", x.gain(what), -1);
        }
        Due.is("gain(0) of nothing told", new WeatherWages().gain(0), -1);
    }
}
