/** Section 1 of the terms: how many there may be of each sort, and which numbers can be. */
public final class LimitsTest {
    private static final String KINDS = "kind a;kind b;kind c;";
    private static final String MEN = "man a crop 1;man b crop 2;man c crop 3;man d crop 4;man e crop 5;";

    public static void main(String[] args) {
        kindsAndMen();
        purses();
        pays();
        hedges();
        rates();
        books();
        once();
        units();
        depths();
        Due.end();
    }

    /** The last number below, the first and last that can be, the first above, the greatest that is told. */
    private static void range(String ahead, int low, int high, String behind) {
        if (low > 0) {
            Texts.faultAt(4, ahead.length(), ahead + (low - 1) + behind);
        }
        WeatherWages x = new WeatherWages();
        Due.holds("mill() of " + ahead + low + behind, Mills.tell(x, ahead + low + behind) >= 0);
        Due.holds("mill() of " + ahead + high + behind, Mills.tell(x, ahead + high + behind) >= 0);
        Texts.faultAt(4, ahead.length(), ahead + (high + 1) + behind);
        Texts.faultAt(4, ahead.length(), ahead + "9999" + behind);
        Texts.faultAt(1, ahead.length(), ahead + "10000" + behind);
    }

    private static void kindsAndMen() {
        Due.says("T1", "At most 3 KINDS, 5 MEN (crop 0 .. 99), numbered as told, each sort by itself;");
        WeatherWages x = Texts.told(KINDS + MEN, 5);
        Due.is("about(1)", x.about(1), 3);
        Texts.fault(2, KINDS + "@kind d;");
        Texts.fault(2, KINDS + "@kind a;");
        Texts.fault(2, KINDS + MEN + "@kind");
        Texts.fault(2, MEN + "@man f crop 1;");
        Texts.fault(2, MEN + "@man a crop 100;");
        Texts.fault(2, MEN + KINDS + "@man");
        range("man m crop ", 0, 99, ";");
        range("man m crop ", 0, 99, " loose;");
        Due.is("crop 0", Mills.of("man m crop 0;").man(0, 0), 0);
        Due.is("crop 99", Mills.of("man m crop 99;").man(0, 0), 99);
        for (int man = 0; man < 5; man++) {
            Due.is("man(" + man + ", 0)", x.man(man, 0), man + 1);
        }
        WeatherWages mixed = Mills.of("man m crop 6;kind b;man b crop 7;kind m;purse b b 4;purse m m 3;man o crop 8;");
        Due.is("purse(1, 0)", mixed.purse(1, 0), 4);
        Due.is("purse(0, 1)", mixed.purse(0, 1), 3);
        Due.is("man(2, 0)", mixed.man(2, 0), 8);
    }

    private static void purses() {
        Due.says("T1", "purse (a MAN, a KIND, both told ahead, each with each once; 0 .. 60),");
        range(Texts.TWO + "purse a b ", 0, 60, ";");
        Texts.told(Texts.TWO + "purse a a 1;purse a b 1;purse b a 1;purse b b 1;", 2);
        Texts.fault(3, Texts.TWO + "purse a b 1;purse a @b 1;");
        Texts.fault(3, Texts.TWO + "purse b a 1;purse a b 1;purse b @a 61;");
        Texts.fault(3, Texts.TWO + "purse a a 0;purse a @a 0;");
        Texts.fault(5, "kind a;purse @m a 1;man m crop 1;");
        Texts.fault(5, "man m crop 1;purse m @a 1;kind a;");
        Texts.fault(5, "kind a;man m crop 1;purse @a m 1;");
        Texts.fault(5, "kind a;man m crop 1;purse m @m 1;");
        WeatherWages x = Mills.of(Texts.TWO + "purse a b 60;purse b a 1;");
        Due.is("purse(0, 1)", x.purse(0, 1), 60);
        Due.is("purse(1, 0)", x.purse(1, 0), 1);
        Due.is("purse(0, 0), not told", x.purse(0, 0), 0);
    }

    private static void pays() {
        Due.says("T1", "pay (likewise; 0 .. 9),");
        range(Texts.TWO + "pay a b ", 0, 9, ";");
        Texts.told(Texts.TWO + "pay a a 1;pay a b 1;pay b a 1;pay b b 1;purse a a 1;", 2);
        Texts.fault(3, Texts.TWO + "pay a b 1;pay a @b 1;");
        Texts.fault(3, Texts.TWO + "pay b a 0;pay b @a 10;");
        Texts.fault(5, "kind a;pay @m a 1;man m crop 1;");
        Texts.fault(5, "man m crop 1;pay m @a 1;kind a;");
        WeatherWages x = Mills.of(Texts.TWO + "pay a b 9;pay b a 1;");
        Due.is("pay(0, 1)", x.pay(0, 1), 9);
        Due.is("pay(1, 0)", x.pay(1, 0), 1);
        Due.is("pay(1, 1), not told", x.pay(1, 1), 0);
    }

    private static void hedges() {
        Due.says("T1", "hedge (of a MAN told ahead to the next one, each MAN once; 0 .. 10; 10 if not told),");
        range(Texts.TWO + "hedge a ", 0, 10, ";");
        Texts.told(Texts.TWO + "hedge b 1;hedge a 1;", 2);
        Texts.fault(3, Texts.TWO + "hedge b 1;hedge @b 1;");
        Texts.fault(3, Texts.TWO + "hedge a 10;hedge b 2;hedge @a 11;");
        Texts.fault(5, "hedge @m 1;man m crop 1;");
        Texts.fault(5, "kind a;man m crop 1;hedge @a 1;");
        WeatherWages x = Mills.of(MEN + "hedge b 3;hedge d 0;hedge e 7;");
        int[] due = {10, 3, 10, 0, 7};
        for (int man = 0; man < 5; man++) {
            Due.is("man(" + man + ", 5)", x.man(man, 5), due[man]);
        }
        WeatherWages ahead = Mills.of("kind a;man m crop 1;hedge m 4;man n crop 1;purse m a 5;");
        ahead.spend(0, 0, 5);
        Due.is("over(1, 0), the next one told behind", ahead.over(1, 0), 3);
    }

    private static void rates() {
        Due.says("T1", "rate (so many 1 .. 9 of a KIND for so many 1 .. 9 of another KIND, both told ahead, each two "
            + "once in this order),");
        range(Texts.TWO + "rate a ", 1, 9, " for b 1;");
        range(Texts.TWO + "rate a 1 for b ", 1, 9, ";");
        Texts.told(Texts.TWO + "rate a 1 for b 1;rate b 2 for a 3;", 2);
        Texts.fault(3, Texts.TWO + "rate a 1 for @a 1;");
        Texts.fault(3, Texts.TWO + "rate a 1 for b 1;rate a 2 for @b 3;");
        Texts.fault(3, Texts.TWO + "rate b 9 for a 9;rate a 1 for b 1;rate b 9 for @a 10;");
        Texts.fault(5, "kind a;rate a 1 for @b 1;kind b;");
        Texts.fault(5, "kind b;rate @a 1 for b 1;kind a;");
        Texts.fault(5, "kind a;man m crop 1;rate @m 1 for a 1;");
        String six = KINDS + "rate a 1 for b 1;rate a 1 for c 1;rate b 1 for a 1;rate b 1 for c 1;rate c 1 for a 1;"
            + "rate c 1 for b 1;";
        Due.is("about(3) of six", Texts.told(six, 0).about(3), 6);
        for (String two : new String[] {"a b", "a c", "b a", "b c", "c a", "c b"}) {
            Texts.fault(3, six + "rate " + two.charAt(0) + " 1 for @" + two.charAt(2) + " 1;");
        }
    }

    private static void books() {
        Due.says("T1", "5 books (0 .. 99);");
        range("book ", 0, 99, ";");
        Due.is("about(2) of five", Texts.told("book 1;book 1;book 0;book 99;book 5;", 0).about(2), 5);
        Texts.fault(2, "book 1;book 2;book 3;book 4;book 5; @book 6;");
        Texts.fault(2, "book 1;book 2;book 3;book 4;book 5;kind a;@book");
    }

    private static void once() {
        Due.says("T1", "grow, hours (1 .. 8; 6), draw (0 .. 999; 0) once each;");
        range("hours ", 1, 8, ";");
        range("draw ", 0, 999, ";");
        Due.is("hours 1", Mills.of("hours 1;").about(6), 1);
        Due.is("hours 8", Mills.of("hours 8;").about(6), 8);
        Due.is("hours, not told", Mills.of("man m crop 1;").about(6), 6);
        Due.is("left(0), hours not told", Mills.of("man m crop 1;").left(0), 6);
        Due.is("draw 999", Mills.of("draw 999;").about(5), 999);
        Due.is("draw, not told", Mills.of("hours 5;").about(5), 0);
        Texts.fault(2, "grow 6;@grow first;");
        Texts.fault(2, "grow 6;kind a;@grow");
        Texts.fault(2, "hours 6;@hours 6;");
        Texts.fault(2, "hours 8;draw 0;grow 1;@hours 9;");
        Texts.fault(2, "draw 6;@draw 600;");
        Texts.fault(2, "draw 0;@draw 0;");
        Texts.told("draw 1;hours 1;grow 1;", 0);
    }

    /** What is within brackets is in the e around them, too: the 31st unit is the first too many. */
    private static void units() {
        Due.says("T1", "60 units in all, 30 in one e");
        String ones = "grow 1" + Texts.times(28, "+1");
        Due.is("about(12) of 29", Texts.told(ones + ";", 0).about(12), 29);
        Due.is("about(12) of 30", Texts.told(ones + "+1;", 0).about(12), 30);
        Texts.fault(2, ones + "+1+@1;");
        Texts.fault(2, ones + "+1+@(1);");
        Texts.fault(2, ones + "+(@1);");
        Texts.fault(2, ones + "+1 and not @first;");
        Texts.fault(2, ones + "+1 or @7");
        Texts.fault(2, ones + "+1*@week*week;");
        Texts.fault(2, ones + "+1<@plot;");
        Texts.fault(1, ones + "+1+@12345;");
        Texts.fault(2, "grow " + Texts.times(15, "not 0 and ") + Texts.times(15, "not 1 or ") + "@0;");
        Texts.told("grow " + Texts.times(15, "not 0 and ") + Texts.times(14, "not 1 or ") + "0;", 0);
        WeatherWages x = Mills.of("man m crop 1;grow 9999*0" + Texts.times(27, "-1") + "+9;");
        Due.is("all 30 count", x.man(0, 2), 9 - 27);
    }

    private static String brackets(int n, String within) {
        return Texts.times(n, "(") + within + Texts.times(n, ")");
    }

    private static void depths() {
        Due.says("T1", "(a unit ( e ), or a one behind not, within 6 others at most).");
        Texts.told("grow " + brackets(6, "1") + ";", 0);
        Texts.told("grow " + brackets(7, "1") + ";", 0);
        Texts.fault(2, "grow " + Texts.times(7, "(") + "@" + brackets(1, "1") + Texts.times(7, ")") + ";");
        Texts.told("grow " + Texts.times(7, "not ") + "1;", 0);
        Texts.fault(2, "grow " + Texts.times(7, "not ") + "@not 1;");
        Texts.fault(2, "grow " + Texts.times(7, "not ") + "@(1);");
        Texts.told("grow " + Texts.times(6, "not ") + "(1);", 0);
        Texts.fault(2, "grow " + Texts.times(7, "(") + "@not 1" + Texts.times(7, ")") + ";");
        Texts.told("grow " + Texts.times(6, "(") + "not 1" + Texts.times(6, ")") + ";", 0);
        Texts.told("grow not (not (not (not 3)));", 0);
        Texts.fault(2, "grow not (not (not (not @(3))));");
        Texts.told("grow " + brackets(7, "1") + "+" + brackets(7, "2") + "*" + brackets(7, "3") + ";", 0);
        Texts.told("grow " + brackets(7, "1") + " and " + Texts.times(7, "not ") + "2;", 0);
        Texts.told("grow not " + brackets(6, "1") + " and not " + brackets(6, "2") + " or not " + brackets(6, "3") + ";", 0);
        Texts.grows(brackets(7, "5"), 5);
        Texts.grows("6 - " + brackets(6, "5 - (4 - 1)"), 4);
        Texts.grows("(3 - (3 - (3 - (3 - (3 - (3 - (3 - 1)))))))", 2);
        Texts.grows(Texts.times(7, "not ") + "1", 0);
        String deep = Texts.times(7, "not ") + "0";
        Texts.grows(deep + Texts.times(29, " and " + deep), 1);
        Texts.grows(deep + Texts.times(28, " and " + deep) + " and " + Texts.times(7, "not ") + "3", 0);
        Texts.grows(Texts.times(29, "0 or ") + deep, 1);
        Texts.grows("1" + Texts.times(22, "-1") + "+" + brackets(6, "3"), -18);
    }
}
