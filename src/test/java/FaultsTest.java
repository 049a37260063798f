/** Section 1 of the terms: the faults of a text. */
public final class FaultsTest {
    private static final String FULL = "kind a ; kind b ; kind c ; man m crop 1 loose ; man n crop 2 ; man o crop 3 loose ; "
        + "man p crop 4 ; man q crop 5 loose ; purse m a 6 ; purse n b 7 ; purse q c 8 ; pay m a 9 ; pay n b 1 ; "
        + "pay q c 2 ; hedge m 3 ; hedge n 4 ; hedge q 5 ; rate a 1 for b 2 ; rate b 3 for a 4 ; rate c 5 for b 6 ; "
        + "book 1 ; book 2 ; book 3 ; book 4 ; book 5 ; hours 7 ; draw 8 ; ";

    public static void main(String[] args) {
        firstByPlace();
        atTheEnd();
        noToken();
        cantStand();
        tooMany();
        unitsTooMany();
        nameTold();
        pairTold();
        rateTold();
        hedgeTold();
        badNumber();
        unknownName();
        Due.end();
    }

    private static void firstByPlace() {
        Due.says("T1", "FAULTS, the first by its place (bytes from 0;");
        Texts.fault(2, "kind a;@sun;kind abcdefghi;");
        Texts.fault(1, "kind a;@?sun;");
        Texts.fault(4, "man m crop @100;man m crop 1?");
        Texts.fault(3, "kind a;kind @a;book 100;");
        Texts.fault(5, "kind a;pay @m b 10;");
        Texts.fault(5, Texts.TWO + "pay a @c 10;");
        Texts.fault(4, Texts.TWO + "rate a @0 for a 0;");
        Texts.fault(5, Texts.TWO + "rate @c 0 for a 0;");
        Texts.fault(4, "book @100 book 7;");
        Texts.fault(2, "book 7 @book 100;");
        Texts.fault(2, "hours 8;draw 7;@hours abcdefghi;");
        Texts.fault(4, "hours @9;grow (1;");
        Texts.fault(2, "@;kind 7;");
        Due.says("T1", "at one place the least:");
        Texts.fault(1, "kind @abcdefghi abcdefghi;");
        Texts.fault(1, "man m crop @100a;");
        Texts.fault(1, Texts.TWO + "purse a b 1;purse a @bbbbbbbbb 1;");
        Texts.fault(1, "grow 1" + Texts.times(29, "+1") + "+@1x;");
        Texts.fault(2, "kind a;kind b;kind c;@kind a;");
        Texts.fault(2, "hours 1;@hours 9;");
    }

    /** A text that stops within a line has its fault at the end, blanks behind it or not. */
    private static void atTheEnd() {
        Due.says("T1", "the end: the text's length),");
        Texts.fault(2, "kind@");
        Texts.fault(2, "kind  @");
        Texts.fault(2, "kind a \n@");
        Texts.fault(2, "grow 1 +\n\n@");
        String[] tokens = (FULL + "grow not ( first + 2 ) * third < crop and not week or plot % 4 ;").split(" ");
        StringBuilder text = new StringBuilder();
        for (String token : tokens) {
            text.append(token).append(' ');
            if (token.equals(";")) {
                Due.is("fault(0) of " + text, Mills.of(text.toString()).fault(0), 0);
            } else {
                Texts.faultAt(2, text.length(), text.toString());
                Texts.faultAt(2, text.length() - 1, text.substring(0, text.length() - 1));
            }
        }
    }

    private static void noToken() {
        Due.says("T1", "1 no TOKEN;");
        Texts.fault(1, "@A");
        Texts.fault(1, "kind a @, kind b;");
        Texts.fault(1, "kind a;@\u00e9");
        Texts.fault(1, "kind a;@\u00ff");
        Texts.fault(1, "grow 1 + @& 2;");
        Texts.fault(1, "man m crop @_7;");
    }

    private static void cantStand() {
        Due.says("T1", "2 one that can't stand there");
        for (String token : new String[] {"sun", "for", "crop", "loose", "and", "first", "7", ";", "(", "="}) {
            Texts.fault(2, "@" + token + " a;");
            Texts.fault(2, "kind a;@" + token);
            Texts.fault(2, "kind b @" + (token.equals(";") ? ")" : token));
        }
        Texts.fault(2, "man m crop @m;");
        Texts.fault(2, "book @a;");
        Texts.fault(2, "hours @;");
        Texts.fault(2, "draw @draw;");
        Texts.fault(2, Texts.TWO + "purse a @7;");
        Texts.fault(2, Texts.TWO + "purse @7 a 7;");
        Texts.fault(2, Texts.TWO + "rate a @b;");
        Texts.fault(2, Texts.TWO + "rate a 1 @and b 2;");
    }

    private static void tooMany() {
        Due.says("T1", "(one of a sort too many or a second time: at the line's first word;");
        Texts.fault(2, "kind a;kind b;kind c; @kind d;");
        Texts.fault(2, "kind a;kind b;kind c;\n@kind 7;");
        Texts.fault(2, "man a crop 1;man b crop 1;man c crop 1;man d crop 1;man e crop 1;@man f crop 1;");
        Texts.fault(2, "man a crop 1;man b crop 1;man c crop 1;man d crop 1;man e crop 1 loose; @man ?");
        Texts.fault(2, "book 1;book 2;book 3;book 4;book 5;@book abcdefghi;");
        Texts.fault(2, "grow 1;@grow 2;");
        Texts.fault(2, "hours 1; @hours;");
        Texts.fault(2, "draw 1;@draw 1000;");
    }

    private static void unitsTooMany() {
        Due.says("T1", "a unit too many, what is within 7 others: at its first TOKEN, or the not);");
        Texts.fault(2, "grow 1" + Texts.times(29, " + 1") + " + @( 1 );");
        Texts.fault(2, "grow 1" + Texts.times(29, " + 1") + " + @first;");
        Texts.fault(2, "grow " + Texts.times(7, "( ") + "@( 1" + Texts.times(8, " )") + ";");
        Texts.fault(2, "grow " + Texts.times(7, "not ") + "@( 1 );");
        Texts.fault(2, "grow " + Texts.times(7, "not ") + "@not 1;");
        Texts.fault(2, "grow " + Texts.times(7, "not ") + "@not ?");
        Texts.fault(2, "grow " + Texts.times(7, "( ") + "@not 1" + Texts.times(7, " )") + ";");
        Texts.fault(2, "grow " + Texts.times(7, "( ") + "1 + @( 1" + Texts.times(8, " )") + ";");
        Texts.fault(2, "grow " + Texts.times(7, "( ") + "1 and @not 1" + Texts.times(7, " )") + ";");
    }

    private static void nameTold() {
        Due.says("T1", "3 a NAME told already (of its sort),");
        Texts.fault(3, "kind a;kind @a;");
        Texts.fault(3, "kind a;kind b;kind @a;");
        Texts.fault(3, "kind a;kind b;kind @b;");
        Texts.fault(3, "man m crop 1;man @m crop 2;");
        Texts.fault(3, "man m crop 1;man n crop 1;man o crop 1;man p crop 1;man @m crop 1;");
        Texts.fault(3, "man m crop 1;man n crop 1;man o crop 1;man p crop 1;man @p crop 1;");
        Texts.fault(3, "kind zzzzzzzz;kind @zzzzzzzz;");
        Texts.fault(3, "kind a;kind @a");
        Texts.told("kind m;man m crop 1;", 1);
        Texts.told("man m crop 1;kind m;", 1);
        Texts.told("kind ab;kind ba;kind b;", 0);
        Texts.told("kind a;kind aa;kind aaaaaaaa;", 0);
        Texts.told("kind az;kind ba;kind bb;", 0);
        Texts.told("kind zzzzzzzz;kind zzzzzzzy;kind yzzzzzzz;", 0);
        Texts.told("kind aaaaaaaa;kind aaaaaaa;kind baaaaaaa;", 0);
        Texts.told("kind a;kind q;kind aq;", 0);
        WeatherWages x = Mills.of("kind ab;kind ba;man ba crop 1;man ab crop 2;purse ba ab 5;purse ab ba 6;");
        Due.is("purse(0, 0)", x.purse(0, 0), 5);
        Due.is("purse(1, 1)", x.purse(1, 1), 6);
        Due.is("purse(0, 1)", x.purse(0, 1), 0);
    }

    private static void pairTold() {
        Due.says("T1", "a MAN with a KIND told already,");
        Texts.fault(3, Texts.TWO + "purse a a 1;purse a @a 2;");
        Texts.fault(3, Texts.TWO + "pay b b 1;pay b @b 2;");
        Texts.fault(3, Texts.TWO + "pay b a 1;pay b b 1;pay a b 1;pay b @a 2;");
        Texts.fault(3, Texts.TWO + "purse a a 1;purse a @a");
        Texts.told(Texts.TWO + "purse a a 1;pay a a 1;purse a b 1;pay a b 1;purse b a 1;", 2);
        String five = "kind a;kind b;kind c;man m crop 1;man n crop 1;man o crop 1;man p crop 1;man q crop 1;";
        for (String man : "m n o p q".split(" ")) {
            for (String kind : "a b c".split(" ")) {
                five += "purse " + man + " " + kind + " 1;pay " + man + " " + kind + " 1;";
            }
        }
        Texts.told(five, 5);
        Texts.fault(3, five + "purse q @c 1;");
        Texts.fault(3, five + "pay m @a 1;");
    }

    private static void rateTold() {
        Due.says("T1", "a rate of a KIND for itself, one told already (each at the second NAME),");
        Texts.fault(3, Texts.TWO + "rate a 1 for @a 1;");
        Texts.fault(3, Texts.TWO + "rate b 1 for @b 1;");
        Texts.fault(3, Texts.TWO + "rate b 1 for @b 0;");
        Texts.fault(3, Texts.TWO + "rate b 1 for @b");
        Texts.fault(3, Texts.TWO + "rate a 1 for b 1;rate a 1 for @b 1;");
        Texts.fault(3, Texts.TWO + "rate b 1 for a 1;rate a 1 for b 1;rate b 9 for @a 9;");
        Texts.told(Texts.TWO + "rate a 1 for b 1;rate b 1 for a 1;", 2);
        Texts.fault(4, Texts.TWO + "rate a 1 for b 1;rate a @10 for b 1;");
    }

    private static void hedgeTold() {
        Due.says("T1", "a hedge of a MAN told already;");
        Texts.fault(3, Texts.TWO + "hedge a 1;hedge @a 1;");
        Texts.fault(3, Texts.TWO + "hedge b 1;hedge a 1;hedge @b 99;");
        Texts.fault(3, Texts.TWO + "hedge a 10;hedge @a");
        Texts.told(Texts.TWO + "hedge b 1;hedge a 1;", 2);
        String five = "man m crop 1;man n crop 1;man o crop 1;man p crop 1;man q crop 1;"
            + "hedge q 1;hedge p 2;hedge o 3;hedge n 4;hedge m 5;";
        Texts.told(five, 5);
        Texts.fault(3, five + "hedge @q 1;");
        Texts.fault(3, five + "hedge @m 1;");
    }

    private static void badNumber() {
        Due.says("T1", "4 a number that can't be;");
        Texts.fault(4, "man m crop @100;");
        Texts.fault(4, Texts.TWO + "purse a a @61;");
        Texts.fault(4, Texts.TWO + "pay a a @10;");
        Texts.fault(4, Texts.TWO + "hedge a @11;");
        Texts.fault(4, Texts.TWO + "rate a @0 for b 1;");
        Texts.fault(4, Texts.TWO + "rate a @10 for b 1;");
        Texts.fault(4, Texts.TWO + "rate a 1 for b @0;");
        Texts.fault(4, Texts.TWO + "rate a 1 for b @10;");
        Texts.fault(4, "book @100;");
        Texts.fault(4, "hours @0;");
        Texts.fault(4, "hours @9;");
        Texts.fault(4, "draw @1000;");
        Texts.fault(4, "draw @1000");
        Texts.told("grow 0 + 9999;", 0);
    }

    private static void unknownName() {
        Due.says("T1", "5 a NAME that nothing of the sort has.");
        Texts.fault(5, Texts.TWO + "purse @c a 1;");
        Texts.fault(5, Texts.TWO + "purse a @c 1;");
        Texts.fault(5, Texts.TWO + "pay @c a 1;");
        Texts.fault(5, Texts.TWO + "pay a @c 1;");
        Texts.fault(5, Texts.TWO + "hedge @c 1;");
        Texts.fault(5, Texts.TWO + "rate @c 1 for a 1;");
        Texts.fault(5, Texts.TWO + "rate a 1 for @c 1;");
        Texts.fault(5, Texts.TWO + "rate a 1 for @c");
        Texts.fault(5, "kind a;man m crop 1;purse @a m 1;");
        Texts.fault(5, "kind a;man m crop 1;hedge @a 1;");
        Texts.fault(5, "kind a;man m crop 1;rate @m 1 for a 1;");
        Texts.fault(5, "kind a;man m crop 1;rate a 1 for @m 1;");
        Texts.fault(5, "purse @m a 1;man m crop 1;kind a;");
        Texts.fault(5, "kind a;man m crop 1;purse @mm a 1;");
    }
}
