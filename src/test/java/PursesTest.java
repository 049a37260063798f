/** Promises 28 to 31: richest, gulf, most and gain. */
public final class PursesTest {
    private static final String KINDS = "kind a;kind b;kind c;";

    public static void main(String[] args) {
        richest();
        most();
        gain();
        gainOfLikeOnes();
        gainBelowOne();
        gainOfThreeBackwards();
        Due.end();
    }

    private static void richest() {
        WeatherWages x = Mills.of("kind a;kind b;man m crop 1;man n crop 99;man o crop 1;purse m a 3;purse n a 2;"
            + "purse n b 3;purse o b 5;");
        Due.is("richest()", x.richest(), 1);
        Due.is("gulf()", x.gulf(), 2);
        x.give(1, 2, 0, 1);
        Due.is("richest()", x.richest(), 2);
        Due.is("gulf()", x.gulf(), 3);
        x.give(2, 0, 1, 5);
        Due.is("richest()", x.richest(), 0);
        Due.is("gulf()", x.gulf(), 7);
        WeatherWages y = Mills.of("man m crop 1;man n crop 1;");
        Due.is("richest() without kinds", y.richest(), 0);
        Due.is("gulf() without kinds", y.gulf(), 0);
        WeatherWages z = Mills.of("kind a;");
        Due.is("richest() without men", z.richest(), -1);
        Due.is("gulf() without men", z.gulf(), -1);
    }

    private static void most() {
        WeatherWages x = Mills.of(KINDS + "man m crop 1;man n crop 1;purse m a 1;purse m b 4;purse m c 4;purse n c 1;");
        Due.is("most(0)", x.most(0), 1);
        Due.is("most(1)", x.most(1), 2);
        x.spend(0, 1, 1);
        Due.is("most(0)", x.most(0), 2);
        x.spend(1, 2, 1);
        Due.is("most(1) of nothing", x.most(1), 0);
        Due.is("most(2)", x.most(2), -1);
        Due.is("most(-1)", x.most(-1), -1);
        Due.is("most(0) without kinds", Mills.of("man m crop 1;").most(0), -1);
    }

    private static void gainIs(String rates, int upper, int lower, int kinds) {
        WeatherWages x = Mills.of(rates);
        Due.is("gain(0) of " + rates, x.gain(0), upper);
        Due.is("gain(1) of " + rates, x.gain(1), lower);
        Due.is("gain(2) of " + rates, x.gain(2), kinds);
        Due.is("gain(3) of " + rates, x.gain(3), -1);
        Due.is("gain(-1) of " + rates, x.gain(-1), -1);
    }

    private static void gain() {
        gainIs("", -1, -1, -1);
        gainIs(KINDS, -1, -1, -1);
        gainIs(KINDS + "rate a 1 for b 2;", -1, -1, -1);
        gainIs(KINDS + "rate a 1 for b 2;rate b 1 for c 2;", -1, -1, -1);
        gainIs(KINDS + "rate a 4 for b 6;rate b 2 for a 8;", 6, 1, 1);
        gainIs(KINDS + "rate c 4 for a 6;rate a 9 for c 8;", 4, 3, 2);
        gainIs(KINDS + "rate c 5 for b 7;rate b 3 for c 8;", 56, 15, 12);
        gainIs(KINDS + "rate a 1 for b 9;rate b 1 for c 9;rate c 1 for a 9;", 729, 1, 12);
        gainIs(KINDS + "rate a 1 for b 2;rate b 1 for c 2;rate c 1 for a 2;rate b 1 for a 5;", 10, 1, 1);
        gainIs(KINDS + "rate a 1 for b 2;rate b 1 for c 2;rate c 1 for a 3;rate b 1 for a 5;", 12, 1, 12);
        gainIs(KINDS + "rate a 8 for b 9;rate b 8 for a 9;rate a 9 for c 8;rate c 7 for a 9;", 81, 64, 1);
        gainIs(KINDS + "rate a 8 for b 9;rate b 8 for a 9;rate a 9 for c 8;rate c 6 for a 9;", 4, 3, 2);
    }

    private static void gainOfLikeOnes() {
        gainIs(KINDS + "rate b 1 for c 2;rate c 1 for b 1;rate a 1 for c 2;rate c 2 for a 2;", 2, 1, 2);
        gainIs(KINDS + "rate a 1 for b 2;rate b 1 for c 1;rate c 1 for a 1;rate a 1 for c 1;rate c 2 for b 2;"
            + "rate b 1 for a 2;", 4, 1, 1);
        gainIs(KINDS + "rate a 1 for b 1;rate b 1 for c 2;rate c 1 for a 1;rate c 1 for b 1;", 2, 1, 12);
        gainIs(KINDS + "rate a 1 for b 2;rate b 1 for c 1;rate c 1 for a 1;rate a 1 for c 2;rate c 1 for b 1;"
            + "rate b 2 for a 1;", 2, 1, 2);
    }

    private static void gainBelowOne() {
        gainIs(KINDS + "rate a 9 for b 1;rate b 9 for a 1;", 1, 81, 1);
        gainIs(KINDS + "rate a 9 for b 1;rate b 9 for a 1;rate a 3 for c 1;rate c 3 for a 2;", 2, 9, 2);
    }

    private static void gainOfThreeBackwards() {
        gainIs(KINDS + "rate a 2 for c 3;rate c 2 for b 3;rate b 2 for a 3;", 27, 8, 21);
        gainIs(KINDS + "rate a 1 for c 1;rate c 1 for b 1;rate b 1 for a 3;rate a 1 for b 1;rate b 1 for c 1;"
            + "rate c 1 for a 3;", 3, 1, 1);
        gainIs(KINDS + "rate a 1 for c 1;rate c 1 for b 3;rate b 3 for a 9;rate a 3 for b 1;rate b 3 for c 1;"
            + "rate c 9 for a 1;", 9, 1, 21);
    }
}
