/** Section 1 of the terms: the lines of a text, its formulas and its tokens. */
public final class GrammarTest {
    public static void main(String[] args) {
        texts();
        kindLines();
        manLines();
        pairLines();
        rateLines();
        numberLines();
        growLines();
        eithers();
        ones();
        sums();
        terms();
        units();
        words();
        numbers();
        signs();
        blanks();
        longest();
        lettersBehindNumbers();
        noTokens();
        ownWords();
        Due.end();
    }

    private static void texts() {
        Due.says("T1", "A MILL is a text of at most 1,600 bytes (empty at first): mill = {line}.");
        Texts.told("", 0);
        Texts.told("   \n ", 0);
        Texts.told("book 1;", 0);
        Texts.told("man m crop 1;book 1;man n crop 1;kind a;", 2);
        String full = "kind a;man m crop 1;" + Texts.times(1573, " ") + "book 7;";
        WeatherWages x = new WeatherWages();
        Mills.feed(x, full);
        Due.is("about(11) of a full text", x.about(11), 1600);
        Due.is("mill() of a full text", x.mill(), 1);
        Due.is("books of a full text", x.about(2), 1);
        Texts.faultAt(2, 1600, full.substring(0, 1599) + " ");
        Texts.faultAt(2, 1599, full.substring(0, 1599));
        Texts.faultAt(1, 1599, full.substring(0, 1599) + "?");
        Texts.faultAt(2, 1600, full.substring(0, 1593) + "book 12");
    }

    private static String joined(String[] tokens, int left, int twice) {
        StringBuilder line = new StringBuilder();
        for (int i = 0; i < tokens.length; i++) {
            line.append(i == left ? "" : tokens[i] + " ").append(i == twice ? tokens[i] + " " : "");
        }
        return line.toString();
    }

    /** How long the tokens are ahead of one, with a blank behind each. */
    private static int before(String[] tokens, int i) {
        int length = 0;
        for (int j = 0; j < i; j++) {
            length += tokens[j].length() + 1;
        }
        return length;
    }

    /**
     * Stands whole, and behind it another one; not with a token left out, told twice, or at its
     * end. Of two names of one letter the other one stands where one is left out.
     */
    private static void line(String ahead, String... tokens) {
        int men = ahead.split("man ").length - 1 + (tokens[0].equals("man") ? 1 : 0);
        Texts.told(ahead + joined(tokens, -1, -1), men);
        Texts.told(ahead + joined(tokens, -1, -1) + "kind z;", men);
        for (int i = 0; i < tokens.length; i++) {
            boolean names = tokens[0].startsWith("p") && (i == 1 || i == 2);
            int left = names ? before(tokens, 1) + 2 : before(tokens, i);
            int twice = names ? before(tokens, 3) : before(tokens, i + 1);
            Texts.faultAt(2, ahead.length() + left, ahead + joined(tokens, i, -1));
            Texts.faultAt(2, ahead.length() + twice, ahead + joined(tokens, -1, i));
            String begun = ahead + joined(tokens, -1, -1).substring(0, before(tokens, i));
            if (i > 0) {
                Texts.faultAt(2, begun.length(), begun);
                Texts.faultAt(2, begun.length() - 1, begun.substring(0, begun.length() - 1));
            }
        }
    }

    private static void kindLines() {
        Due.says("T1", "line = kind NAME ;");
        line("", "kind", "a", ";");
        line("man a crop 1;", "kind", "a", ";");
        Texts.fault(2, "kind @7;");
        Texts.fault(2, "kind @(;");
        Texts.fault(2, "kind a@+kind b;");
    }

    private static void manLines() {
        Due.says("T1", "man NAME crop N [loose] ;");
        line("", "man", "m", "crop", "7", ";");
        line("man n crop 3;", "man", "m", "crop", "7", ";");
        Texts.told("man m crop 7 loose;", 1);
        Texts.fault(2, "man m crop 7 loose @loose;");
        Texts.fault(2, "man m crop 7 @loos;");
        Texts.fault(2, "man m crop 7 @crop;");
        Texts.fault(2, "man m crop @loose;");
        Texts.fault(2, "man m crop 7 loose@");
        Texts.fault(2, "man m @loose crop 7;");
        Texts.fault(2, "man m @crops 7;");
    }

    private static void pairLines() {
        Due.says("T1", "purse NAME NAME N ;");
        line(Texts.TWO, "purse", "a", "b", "4", ";");
        Due.says("T1", "pay NAME NAME N ;");
        line(Texts.TWO, "pay", "b", "a", "4", ";");
        Due.says("T1", "hedge NAME N ;");
        line(Texts.TWO, "hedge", "b", "4", ";");
        Texts.fault(2, Texts.TWO + "hedge a @a 4;");
    }

    private static void rateLines() {
        Due.says("T1", "rate NAME N for NAME N ;");
        line(Texts.TWO, "rate", "a", "1", "for", "b", "2", ";");
        line(Texts.TWO + "rate a 1 for b 2;", "rate", "b", "1", "for", "a", "2", ";");
        Texts.fault(2, Texts.TWO + "rate a 1 @fore b 2;");
    }

    private static void numberLines() {
        Due.says("T1", "book N ;");
        line("", "book", "1", ";");
        line("book 1;", "book", "1", ";");
        Due.says("T1", "hours N ;");
        line("", "hours", "1", ";");
        line("man m crop 1;", "hours", "8", ";");
        Due.says("T1", "draw N ;.");
        line("", "draw", "1", ";");
        line("hours 3;", "draw", "0", ";");
    }

    private static void growLines() {
        Due.says("T1", "grow e ;");
        line("", "grow", "1", ";");
        line("kind a;", "grow", "first", ";");
        line("", "grow", "crop", ";");
        Texts.fault(2, "grow @and;");
        Texts.fault(2, "grow @sun;");
        Texts.fault(2, "grow @hours;");
    }

    private static void eithers() {
        Due.says("T1", "e = both {or both}.");
        Texts.grows("0 or 0", 0);
        Texts.grows("0 or 0 or 3", 1);
        Texts.grows("2 or 0 or 0", 1);
        Texts.grows("1 or 0 and 0", 1);
        Texts.grows("0 and 0 or 1", 1);
        Texts.fault(2, "grow @or 1;");
        Texts.fault(2, "grow 1 or @;");
        Texts.fault(2, "grow 1 or @or 1;");
        Texts.fault(2, "grow 1 or@");
        Due.says("T1", "both = one {and one}.");
        Texts.grows("1 and 2 and 3", 1);
        Texts.grows("1 and 2 and 0", 0);
        Texts.grows("0 and 2", 0);
        Texts.grows("(1 or 1) and 0", 0);
        Texts.fault(2, "grow @and 1;");
        Texts.fault(2, "grow 1 and @;");
        Texts.fault(2, "grow 1 and @or 1;");
        Texts.fault(2, "grow 1 and@");
    }

    private static void ones() {
        Due.says("T1", "one = not one | sum [(< | > | =) sum].");
        Texts.grows("not 0", 1);
        Texts.grows("not 5", 0);
        Texts.grows("not not 5", 1);
        Texts.grows("not 1 = 2", 1);
        Texts.grows("not 0 + 1", 0);
        Texts.grows("not 0 and 0", 0);
        Texts.grows("not 1 or 1", 1);
        Texts.grows("1 and not 0", 1);
        Texts.grows("0 or not 0", 1);
        Texts.grows("1 + 1 = 2", 1);
        Texts.grows("1 + 2 < 2 + 2", 1);
        Texts.grows("2 * 2 > 3 - 1", 1);
        Texts.fault(2, "grow 1 < 2 @< 3;");
        Texts.fault(2, "grow 1 = 2 @> 3;");
        Texts.fault(2, "grow 1 > 2 @= 3;");
        Texts.fault(2, "grow 1 + @not 2;");
        Texts.fault(2, "grow 1 < @not 2;");
        Texts.fault(2, "grow not @and 1;");
        Texts.fault(2, "grow not @< 1;");
        Texts.fault(2, "grow not @;");
        Texts.fault(2, "grow 1 @not 2;");
        Texts.fault(2, "grow @< 1;");
        Texts.fault(2, "grow 1 > @;");
        Texts.fault(2, "grow 1 =@");
    }

    private static void sums() {
        Due.says("T1", "sum = term {(+ | -) term}.");
        Texts.grows("9 - 3 - 2", 4);
        Texts.grows("9 - (3 - 2)", 8);
        Texts.grows("9 - 3 + 2", 8);
        Texts.grows("1 + 2 * 3", 7);
        Texts.grows("9 - 2 * 3", 3);
        Texts.fault(2, "grow @- 1;");
        Texts.fault(2, "grow @+ 1;");
        Texts.fault(2, "grow 1 + @;");
        Texts.fault(2, "grow 1 + @- 2;");
        Texts.fault(2, "grow 1 -@");
    }

    private static void terms() {
        Due.says("T1", "term = unit {(* | / | %) unit}.");
        Texts.grows("(1 + 2) * 3", 9);
        Texts.grows("20 / 3 * 2", 12);
        Texts.grows("20 / (3 * 2)", 3);
        Texts.grows("20 % 7 * 2", 12);
        Texts.grows("18 / 2 / 3", 3);
        Texts.grows("2 * 3 % 4", 2);
        Texts.fault(2, "grow @* 1;");
        Texts.fault(2, "grow 1 * @;");
        Texts.fault(2, "grow 1 / @* 2;");
        Texts.fault(2, "grow 1 + @% 2;");
        Texts.fault(2, "grow 1 %@");
    }

    private static void units() {
        Due.says("T1", "unit = N | first | second | third | crop | week | plot | ( e ).");
        WeatherWages x = Mills.of("kind a;kind b;kind c;man l crop 0;man m crop 6;man n crop 0;purse n a 3;purse n b 2;"
            + "purse n c 1;grow first + second * 2 + third * 3 + crop * 4 + week * 5 + plot * 6 - 19;");
        x.week();
        x.spend(2, 0, 3);
        x.spend(2, 1, 2);
        x.spend(2, 2, 1);
        Due.is("growth of the last plot", x.man(2, 2), 3 + 4 + 3 + 0 + 5 + 12 - 19);
        Texts.grows("crop", 7);
        Texts.grows("13", 13);
        Texts.grows("(13)", 13);
        Texts.grows("(0 or 1) * (3 > 2) * (not 0) * ((5))", 5);
        Texts.fault(2, "grow 1 @2;");
        Texts.fault(2, "grow 1 @first;");
        Texts.fault(2, "grow (@);");
        Texts.fault(2, "grow (1@;");
        Texts.fault(2, "grow (1@");
        Texts.fault(2, "grow 1@);");
        Texts.fault(2, "grow (1)@)");
        Texts.fault(2, "grow (1 + @) + 1;");
        Texts.fault(2, "grow (1 @2);");
        Texts.fault(2, "grow (@;");
        Texts.fault(2, "grow (1 + @;");
        Texts.fault(2, "grow (@* 2);");
        Texts.fault(2, "grow (1 + @* 2);");
        Texts.fault(2, "grow (1 < @< 2);");
        Texts.fault(2, "grow (1 and @or 2);");
        Texts.fault(2, "grow ((@+ 2));");
        Texts.fault(2, "grow @fourth;");
        Texts.fault(2, "grow @loose;");
    }

    private static void words() {
        Due.says("T1", "TOKENS: words (a .. z, 8 at most),");
        Texts.told("kind a;kind z;kind az;", 0);
        Texts.told("kind abcdefgh;kind zzzzzzzz;", 0);
        Texts.fault(1, "kind @abcdefghi;");
        Texts.fault(1, "@abcdefghi");
        Texts.fault(1, "kind a;man @zzzzzzzzz crop 1;");
        Texts.fault(1, "man m crop 1 @looseloose;");
        Texts.fault(1, "grow @firstfirst;");
        Texts.fault(1, "kind @" + Texts.times(30, "q") + ";");
        Texts.fault(2, "@abcdefgh");
        Texts.fault(1, "kind @A;");
        Texts.fault(1, "kind a@B;");
    }

    private static void numbers() {
        Due.says("T1", "N (1 to 4 digits),");
        Texts.told("book 0;book 7;book 12;book 012;book 0099;", 0);
        Texts.told("grow 9999;", 0);
        Texts.fault(1, "book @00007;");
        Texts.fault(1, "book @12345;");
        Texts.fault(1, "book @" + Texts.times(40, "9") + ";");
        Texts.fault(1, "grow 1 + @10000;");
        Texts.fault(1, "@00000");
        Texts.fault(2, "@0000");
        WeatherWages x = Mills.of("man m crop 0042;draw 987;grow 0010 + 5;");
        Due.is("man(0, 0)", x.man(0, 0), 42);
        Due.is("about(5)", x.about(5), 987);
        Due.is("man(0, 2)", x.man(0, 2), 15);
        Due.is("all four digits", Mills.of("man m crop 1;grow 8765 - 8759;").man(0, 2), 6);
    }

    private static void signs() {
        Due.says("T1", "signs ; ( ) < > = + - * / %;");
        for (char sign : ";()<>=+-*/%".toCharArray()) {
            Texts.fault(2, "kind a;@" + sign);
            Texts.fault(2, "kind @" + sign);
            Texts.fault(2, "book 7" + (sign == ';' ? ";@;" : "@" + sign));
        }
        Texts.fault(2, "grow 1 < @= 2;");
        Texts.fault(2, "grow 1 + @+ 2;");
    }

    private static void blanks() {
        Due.says("T1", "blanks (32, 10) part them or not;");
        Texts.told("kind\na ;man m\n\n crop 7  loose;\n", 1);
        Texts.told(" kind a;", 0);
        Texts.told("\nkind a;", 0);
        Texts.told("kind a;kind b;man m crop7;purse m a7;rate a1 for b2;hours8;draw9;book5;", 1);
        Texts.told("grow(1+2)*3<(4)and not(5)or first;", 0);
        Texts.told("grow (1)or 2 or(3);", 0);
        Texts.fault(1, "kind a@\t;");
        Texts.fault(1, "kind a@\r\n;");
        Texts.fault(1, "kind@\u000ba;");
        Texts.fault(1, "kind@\u00a0a;");
        Texts.fault(1, "kind a;@\u0000");
        Texts.fault(2, "grow 1 <\n@= 2;");
        Texts.fault(2, "book 7 @8;");
    }

    private static void longest() {
        Due.says("T1", "each is as long as can be;");
        Texts.fault(2, "@kinda;");
        Texts.fault(2, "@mann crop 7;");
        Texts.fault(2, "grow not @notfirst;");
        Texts.fault(2, "grow @firstor 1;");
        Texts.fault(4, "hours @12;");
        Texts.fault(1, "kind @abcdefgha;");
        Texts.fault(1, "book @99999;");
        WeatherWages x = Mills.of("man m crop 12;man mm crop 1;");
        Due.is("man(0, 0)", x.man(0, 0), 12);
    }

    private static void lettersBehindNumbers() {
        Due.says("T1", "no letter directly behind an N");
        Texts.fault(1, "man m crop @7loose;");
        Texts.fault(1, "man m crop @7a;");
        Texts.fault(1, "man m crop @7z;");
        Texts.fault(1, "grow @1or 2;");
        Texts.fault(1, "kind a;kind b;rate a @1for b 2;");
        Texts.told("man m crop 7 loose;", 1);
        Texts.told("man m crop 7\nloose;", 1);
        Texts.told("grow 1+first;", 0);
        Texts.fault(1, "man m crop 7@_;");
    }

    private static void noTokens() {
        Due.says("T1", "(what is none of these, a longer word, more digits, an N with a letter behind it: 1 at its "
            + "first byte).");
        for (int b = 0; b < 256; b++) {
            boolean letter = b >= 'a' && b <= 'z';
            boolean digit = b >= '0' && b <= '9';
            if (b == ' ' || b == '\n') {
                Texts.told("kind a; " + (char) b, 0);
            } else {
                boolean token = letter || digit || ";()<>=+-*/%".indexOf(b) >= 0;
                Texts.faultAt(token ? 2 : 1, 8, "kind a; " + (char) b);
            }
        }
        Texts.fault(1, "kind @abcdefghijkl;");
        Texts.fault(1, "book  @123456;");
        Texts.fault(1, "book\n@12x;");
        Texts.fault(1, "book @12345x;");
        Texts.fault(1, "grow 1 @! 2;");
        Texts.fault(1, "@?");
    }

    private static void ownWords() {
        Due.says("T1", "Words that stand for themselves here are no NAMES.");
        for (String word : Texts.RESERVED) {
            Texts.fault(2, "kind @" + word + ";");
            Texts.fault(2, "man @" + word + " crop 1;");
            Texts.fault(2, Texts.TWO + "purse @" + word + " a 1;");
            Texts.fault(2, Texts.TWO + "pay a @" + word + " 1;");
            Texts.fault(2, Texts.TWO + "hedge @" + word + " 1;");
            Texts.fault(2, Texts.TWO + "rate @" + word + " 1 for b 1;");
            Texts.fault(2, Texts.TWO + "rate a 1 for @" + word + " 1;");
            for (int i = 0; i < word.length(); i++) {
                String other = word.substring(0, i) + "z" + word.substring(i + 1);
                Texts.told("kind " + other + ";man " + other + " crop 1;", 1);
                Texts.fault(2, "@" + other + " a;");
            }
            Texts.told("kind " + word + "z;", 0);
            Texts.told("man " + word.substring(0, word.length() - 1) + " crop 1;", 1);
        }
        Texts.told("kind e;kind line;kind mill;man name crop 1;man purses crop 1;", 2);
    }
}
