/** Promises 4 and 5: mill and fault, and section 1 of the terms. */
public final class MillTextTest {
    private static final String[] RESERVED = {"kind", "man", "crop", "loose", "purse", "pay", "hedge", "rate",
        "for", "book", "grow", "hours", "draw", "or", "and", "not", "first", "second", "third", "week", "plot"};
    private static final String FULL = "kind a ; kind b ; kind c ; man m crop 1 loose ; man n crop 2 ; man o crop 3 loose ; "
        + "man p crop 4 ; man q crop 5 loose ; purse m a 6 ; purse n b 7 ; purse q c 8 ; pay m a 9 ; pay n b 1 ; "
        + "pay q c 2 ; hedge m 3 ; hedge n 4 ; hedge q 5 ; rate a 1 for b 2 ; rate b 3 for a 4 ; rate c 5 for b 6 ; "
        + "book 1 ; book 2 ; book 3 ; book 4 ; book 5 ; hours 7 ; draw 8 ; ";
    private static final String TWO = "kind a;kind b;man m crop 1;man n crop 2;";

    public static void main(String[] args) {
        fine();
        tokens();
        cantStand();
        tooManyLines();
        toldAlready();
        badNumbers();
        unknownNames();
        firstByPlace();
        units();
        depths();
        prefixes();
        words();
        names();
        afterFault();
        afterMill();
        afterFullMill();
        Due.end();
    }

    private static void told(String text, int men) {
        WeatherWages x = new WeatherWages();
        Due.is("mill() of " + text, Mills.tell(x, text), men);
        Due.is("fault(0) of " + text, x.fault(0), 0);
        Due.is("fault(1) of " + text, x.fault(1), -1);
        Due.is("fault(2) of " + text, x.fault(2), -1);
        Due.is("fault(-1) of " + text, x.fault(-1), -1);
    }

    private static void fault(String text, int what, int place) {
        WeatherWages x = new WeatherWages();
        Due.is("mill() of " + text, Mills.tell(x, text), -1);
        Due.is("fault(0) of " + text, x.fault(0), what);
        Due.is("fault(1) of " + text, x.fault(1), place);
        Due.is("fault(2) of " + text, x.fault(2), -1);
        Due.is("about(11) of " + text, x.about(11), 0);
    }

    private static void fine() {
        told("", 0);
        told("   \n ", 0);
        told("kind sun;", 0);
        told("man m crop 0;man n crop 99 loose;", 2);
        told("kind x;man x crop 1;", 1);
        told("kind abcdefgh;kind line;kind e;", 0);
        told("man a crop 1;man b crop 1;man c crop 1;man d crop 1;man e crop 1;", 5);
        told(TWO + "purse m a 60;purse m b 0;purse n a 1;pay m a 9;pay n b 0;hedge m 0;hedge n 10;", 2);
        told(TWO + "rate a 1 for b 9;rate b 9 for a 1;book 0;book 99;book 5;book 5;book 5;", 2);
        told("hours 1;draw 0;grow 1;", 0);
        told("hours 8;draw 999;grow 9999;", 0);
        told("kind a;kind b;kind c;rate a 1 for b 1;rate a 1 for c 1;rate b 1 for a 1;rate b 1 for c 1;"
            + "rate c 1 for a 1;rate c 1 for b 1;", 0);
    }

    private static void tokens() {
        told("kind\na ;man m\n\n crop 7 loose;", 1);
        told("man m crop 0007;", 1);
        told("kind a;kind b;man m crop7;purse m a7;rate a1 for b2;hours8;draw9;book5;", 1);
        fault("kind abcdefghi;", 1, 5);
        fault("abcdefghi", 1, 0);
        fault("man m crop 00007;", 1, 11);
        fault("man m crop 7loose;", 1, 11);
        fault("man m crop 12345x;", 1, 11);
        fault("kind a;kind b;man m crop7;purse m a7;rate a1for b2;", 1, 43);
        fault("kinda;", 2, 0);
        fault("man m crop 7L;", 1, 12);
        fault("kind A;", 1, 5);
        fault("kind a\t;", 1, 6);
        fault("kind a\r\n;", 1, 6);
        fault("kind a;\u0000", 1, 7);
        fault("kind a;\u00ff", 1, 7);
        fault("\u00e9", 1, 0);
        fault("grow 1 ! 2;", 1, 7);
    }

    private static void cantStand() {
        fault("kind", 2, 4);
        fault("kind  ", 2, 6);
        fault("kind a", 2, 6);
        fault("kind a \n", 2, 8);
        fault("kind a b;", 2, 7);
        fault(";", 2, 0);
        fault("sun a;", 2, 0);
        fault("7;", 2, 0);
        fault("kind 7;", 2, 5);
        fault("kind;", 2, 4);
        fault("man m 7;", 2, 6);
        fault("man m crop;", 2, 10);
        fault("man m crop loose;", 2, 11);
        fault("man m crop 7 loos;", 2, 13);
        fault("man m crop 7 loose loose;", 2, 19);
        fault(TWO + "purse m 7;", 2, 48);
        fault(TWO + "purse m a;", 2, 49);
        fault(TWO + "rate a 1 b 2;", 2, 49);
        fault(TWO + "rate a for b 2;", 2, 47);
        fault(TWO + "rate a 1 for 2;", 2, 53);
        fault(TWO + "hedge m m 2;", 2, 48);
        fault("book a;", 2, 5);
        fault("hours ;", 2, 6);
        fault("draw draw;", 2, 5);
        fault("grow ;", 2, 5);
        fault("grow 1", 2, 6);
        fault("grow (1;", 2, 7);
        fault("grow 1);", 2, 6);
        fault("grow ();", 2, 6);
        fault("grow 1 2;", 2, 7);
        fault("grow 1 + ;", 2, 9);
        fault("grow - 1;", 2, 5);
        fault("grow 1 < 2 < 3;", 2, 11);
        fault("grow 1 = 2 > 3;", 2, 11);
        fault("grow 1 + not 2;", 2, 9);
        fault("grow 1 < not 2;", 2, 9);
        fault("grow 1 and;", 2, 10);
        fault("grow or 1;", 2, 5);
        fault("grow not and 1;", 2, 9);
        fault("grow not < 1;", 2, 9);
        fault("grow 1 + * 2;", 2, 9);
        fault("grow (1 + ) + 1;", 2, 10);
        fault("grow 1 and or 2;", 2, 11);
        fault("grow sun;", 2, 5);
        fault("grow hours;", 2, 5);
        for (String word : RESERVED) {
            fault("kind " + word + ";", 2, 5);
            fault("man " + word + " crop 1;", 2, 4);
            fault(TWO + "pay " + word + " a 1;", 2, 44);
        }
    }

    private static void tooManyLines() {
        fault("kind a;kind b;kind c; kind d;", 2, 22);
        fault("kind a;kind b;kind c;kind a;", 2, 21);
        fault("kind a;kind b;kind c;kind", 2, 21);
        fault("man a crop 1;man b crop 1;man c crop 1;man d crop 1;man e crop 1;man f crop 1;", 2, 65);
        fault("book 1;book 2;book 3;book 4;book 5; book 6;", 2, 36);
        fault("hours 6;hours 6;", 2, 8);
        fault("draw 6;draw 600;", 2, 7);
        fault("grow 6;grow first;", 2, 7);
        fault("hours 8;draw 0;grow 1;hours 9;", 2, 22);
    }

    private static void toldAlready() {
        fault("kind a;kind a;", 3, 12);
        fault("man m crop 1;man m crop 2;", 3, 17);
        fault(TWO + "purse m a 1;purse m a 2;", 3, 60);
        fault(TWO + "pay n b 1;pay n b 2;", 3, 56);
        told(TWO + "purse m a 1;pay m a 1;purse m b 1;purse n a 1;", 2);
        fault(TWO + "hedge m 1;hedge m 1;", 3, 56);
        fault(TWO + "rate a 1 for a 1;", 3, 53);
        fault(TWO + "rate a 1 for b 1;rate a 2 for b 3;", 3, 70);
        told(TWO + "rate a 1 for b 1;rate b 2 for a 3;", 2);
    }

    private static void badNumbers() {
        fault("man m crop 100;", 4, 11);
        fault(TWO + "purse m a 61;", 4, 50);
        fault(TWO + "pay m a 10;", 4, 48);
        fault(TWO + "hedge m 11;", 4, 48);
        fault(TWO + "rate a 0 for b 1;", 4, 47);
        fault(TWO + "rate a 10 for b 1;", 4, 47);
        fault(TWO + "rate a 1 for b 0;", 4, 55);
        fault(TWO + "rate a 1 for b 10;", 4, 55);
        fault("book 100;", 4, 5);
        fault("hours 0;", 4, 6);
        fault("hours 9;", 4, 6);
        fault("draw 1000;", 4, 5);
    }

    private static void unknownNames() {
        fault(TWO + "purse a m 1;", 5, 46);
        fault(TWO + "purse m m 1;", 5, 48);
        fault(TWO + "pay x a 1;", 5, 44);
        fault(TWO + "pay m x 1;", 5, 46);
        fault(TWO + "hedge a 1;", 5, 46);
        fault(TWO + "rate m 1 for b 1;", 5, 45);
        fault(TWO + "rate a 1 for m 1;", 5, 53);
        fault("purse m a 1;man m crop 1;kind a;", 5, 6);
    }

    private static void firstByPlace() {
        fault("kind a;sun;kind abcdefghi;", 2, 7);
        fault("man m crop 100;man m crop 1?", 4, 11);
        fault("hours 8;draw 7;hours abcdefghi;", 2, 15);
    }

    /** 30 units stand; the 31st one does not, at its first token. */
    private static void units() {
        String sum = "grow 1";
        for (int n = 2; n <= 30; n++) {
            sum += "+1";
        }
        WeatherWages x = Mills.of(sum + ";");
        Due.is("about(12)", x.about(12), 30);
        fault(sum + " + 1;", 2, sum.length() + 3);
        fault(sum + " + (1);", 2, sum.length() + 3);
        fault(sum + " and not first;", 2, sum.length() + 9);
        fault(sum + " + 123456;", 1, sum.length() + 3);
        Due.is("about(12)", Mills.of("grow (first + (2)) * week;").about(12), 5);
        Due.is("about(12)", Mills.of("grow not 1 and not not 2;").about(12), 2);
        Due.is("about(12)", Mills.of("kind a;").about(12), 0);
    }

    private static void depths() {
        told("grow (((((((1)))))));", 0);
        fault("grow ((((((((1))))))));", 2, 12);
        told("grow not not not not not not not 1;", 0);
        fault("grow not not not not not not not not 1;", 2, 33);
        told("grow not (not (not (not 3)));", 0);
        fault("grow not (not (not (not (3))));", 2, 24);
        fault("grow ((((((( not 3)))))));", 2, 13);
        told("grow (((((((1))))))) + (((((((2)))))));", 0);
        told("grow ((((((not 1)))))) and not (((((( 2 ))))));", 0);
    }

    /** A text that stops within a line has its fault at the end. */
    private static void prefixes() {
        String[] tokens = (FULL + "grow not ( first + 2 ) * third < crop and not week or plot % 4 ;").split(" ");
        StringBuilder text = new StringBuilder();
        for (String token : tokens) {
            text.append(token).append(' ');
            if (token.equals(";")) {
                Due.is("fault(0) of " + text, Mills.of(text.toString()).fault(0), 0);
            } else {
                fault(text.toString(), 2, text.length());
                fault(text.substring(0, text.length() - 1), 2, text.length() - 1);
            }
        }
    }

    /** Each letter of a word counts. */
    private static void words() {
        for (String word : RESERVED) {
            for (int i = 0; i < word.length(); i++) {
                String other = word.substring(0, i) + "z" + word.substring(i + 1);
                told("kind " + other + ";", 0);
                fault(other + " a;", 2, 0);
            }
            told("kind " + word + "z;", 0);
            told("man " + word.substring(0, word.length() - 1) + " crop 1;", 1);
        }
    }

    private static void names() {
        told("kind ab;kind ba;kind b;", 0);
        told("kind a;kind aa;kind aaaaaaaa;", 0);
        told("kind az;kind ba;kind bb;", 0);
        told("kind zzzzzzzz;kind zzzzzzzy;kind yzzzzzzz;", 0);
        fault("kind zzzzzzzz;kind zzzzzzzz;", 3, 19);
        WeatherWages x = Mills.of("kind ab;kind ba;man ba crop 1;man ab crop 2;purse ba ab 5;purse ab ba 6;");
        Due.is("purse(0, 0)", x.purse(0, 0), 5);
        Due.is("purse(1, 1)", x.purse(1, 1), 6);
        Due.is("purse(0, 1)", x.purse(0, 1), 0);
    }

    private static void afterFault() {
        WeatherWages x = Mills.of("kind a;man m crop 5;purse m a 9;book 3;grow 7;draw 4;");
        x.week();
        x.spend(0, 0, 1);
        x.undo();
        x.image(1);
        x.least(0, 3, true);
        x.later(10);
        x.best(0, 0);
        Due.is("mill() with a fault", Mills.tell(x, "kind b;man n crop 1;man n crop 2;"), -1);
        int[] due = {1, 1, 1, 0, 1, 4, 6, 1, 1, 1, 10, 0, 1, 1};
        for (int what = 0; what < due.length; what++) {
            Due.is("about(" + what + ")", x.about(what), due[what]);
        }
        Due.is("man(0, 0)", x.man(0, 0), 12);
        Due.is("man(0, 2)", x.man(0, 2), 7);
        Due.is("purse(0, 0)", x.purse(0, 0), 9);
        Due.is("redo()", x.redo(), true);
        Due.is("back(1)", x.back(1), 1);
        Due.is("fault(0)", x.fault(0), 3);
    }

    private static void afterMill() {
        WeatherWages x = Mills.of("kind a;man m crop 5;purse m a 9;book 3;hours 2;grow 7;draw 4;hedge m 3;pay m a 2;");
        x.week();
        x.spend(0, 0, 1);
        x.undo();
        x.image(1);
        x.least(0, 3, true);
        x.later(10);
        x.best(0, 0);
        Mills.tell(x, "?");
        Due.is("mill()", Mills.tell(x, "kind z;man n crop 1 loose;draw 5;"), 1);
        int[] due = {1, 1, 0, 0, 0, 5, 6, 0, 0, 0, 10, 0, 0, 0};
        for (int what = 0; what < due.length; what++) {
            Due.is("about(" + what + ")", x.about(what), due[what]);
        }
        Due.is("fault(0)", x.fault(0), 0);
        Due.is("fault(1)", x.fault(1), -1);
        int[] man = {1, 0, 0, 0, 0, 10, 1};
        for (int what = 0; what < man.length; what++) {
            Due.is("man(0, " + what + ")", x.man(0, what), man[what]);
        }
        Due.is("back(1)", x.back(1), -1);
        Due.is("undo()", x.undo(), false);
        Due.is("redo()", x.redo(), false);
        Due.is("untell(0)", x.untell(0), false);
        Due.is("mill() of nothing", x.mill(), 0);
        Due.is("about(0)", x.about(0), 0);
        Due.is("about(5)", x.about(5), 0);
    }

    /** What was told of a mill is not told of the next one. */
    private static void afterFullMill() {
        WeatherWages x = Mills.of(FULL + "grow first;");
        for (int box = 0; box < 3; box++) {
            x.image(box);
        }
        for (int n = 0; n < 45; n++) {
            x.week();
        }
        Due.is("mill() again", Mills.tell(x, FULL + "grow first;"), 5);
        for (int box = 0; box < 3; box++) {
            Due.is("back(" + box + ")", x.back(box), -1);
        }
        Due.is("about(3)", x.about(3), 3);
        x.spend(0, 0, 2);
        x.week();
        x.undo();
        Due.is("man(0, 1)", x.man(0, 1), 2);
        x.undo();
        Due.is("purse(0, 0)", x.purse(0, 0), 6);
        Due.is("purse(2, 0)", x.purse(2, 0), 0);
        Due.is("undo()", x.undo(), false);
        Mills.tell(x, "?");
        Due.is("mill() of names", Mills.tell(x, "kind a;kind b;kind c;man m crop 1;man n crop 1;man o crop 1;"
            + "man p crop 1;man q crop 1;"), 5);
        int[] due = {5, 3, 0, 0, 0, 0, 6, 0, 0, 0, 0, 0, 0, 0};
        for (int what = 0; what < due.length; what++) {
            Due.is("about(" + what + ")", x.about(what), due[what]);
        }
        for (int man = 0; man < 5; man++) {
            int[] of = {1, 0, 0, 0, 0, 10, 0};
            for (int what = 0; what < of.length; what++) {
                Due.is("man(" + man + ", " + what + ")", x.man(man, what), of[what]);
            }
        }
        Due.is("gain(0)", x.gain(0), -1);
        x = Mills.of("kind a;kind b;kind c;man m crop 1;man n crop 2;man o crop 3;man p crop 4;man q crop 5;"
            + "purse q c 9;purse q a 2;purse m a 3;");
        Mills.tell(x, "kind a;kind b;kind c;man m crop 6;man n crop 7;man o crop 8;man p crop 9;man q crop 10;");
        Due.is("all(2, 0)", x.all(2, 0), 0);
        Due.is("all(0, 0)", x.all(0, 0), 0);
        Due.is("man(4, 0)", x.man(4, 0), 10);
    }
}
