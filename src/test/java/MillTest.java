/** Promises 4 and 5: mill and fault. */
public final class MillTest {
    private static final String USED = "kind a;man m crop 5;purse m a 9;pay m a 2;book 3;hours 3;grow 7;draw 4;hedge m 3;";
    private static final String OTHER = "kind z;man n crop 1 loose;draw 5;";

    public static void main(String[] args) {
        tapeIsTheMill();
        tapeIsEmpty();
        allAsTold();
        allElseAsNotTold();
        growAnew();
        weekNothing();
        noActs();
        noSights();
        nothingLies();
        boxesAreEmpty();
        timeStays();
        howManyMen();
        fault();
        emptyAtAFault();
        allElseStays();
        faultOfTheLatest();
        placeOfTheLatest();
        faultOfAnother();
        Due.end();
    }

    private static WeatherWages used() {
        WeatherWages x = Mills.of(USED);
        x.week();
        x.spend(0, 0, 1);
        x.spend(0, 0, 2);
        x.undo();
        x.image(1);
        x.least(0, 3, true);
        x.later(10);
        x.best(0, 0);
        return x;
    }

    private static void tapeIsTheMill() {
        Due.says("4", "The TAPE (empty then) is the MILL");
        WeatherWages x = new WeatherWages();
        Mills.feed(x, "man m crop 4;");
        Due.is("about(0) ahead of mill()", x.about(0), 0);
        Due.is("mill()", x.mill(), 1);
        Due.is("about(0)", x.about(0), 1);
        Due.is("man(0, 0)", x.man(0, 0), 4);
        Mills.feed(x, "kind a;man m crop 7;man n crop 8;");
        Due.is("man(0, 0) ahead of the next mill()", x.man(0, 0), 4);
        x.mill();
        Due.is("man(0, 0) of the next mill", x.man(0, 0), 7);
    }

    private static void tapeIsEmpty() {
        WeatherWages x = new WeatherWages();
        Mills.tell(x, "man m crop 4;");
        Due.is("about(11)", x.about(11), 0);
        Due.is("end(1)", x.end(1), -1);
        Due.is("mill() of the empty tape", x.mill(), 0);
        Due.is("about(0)", x.about(0), 0);
    }

    private static void allAsTold() {
        Due.says("4", "(all as told,");
        WeatherWages x = used();
        Due.is("mill()", Mills.tell(x, USED), 1);
        Due.is("man(0, 0)", x.man(0, 0), 5);
        Due.is("man(0, 1)", x.man(0, 1), 0);
        Due.is("man(0, 5)", x.man(0, 5), 3);
        Due.is("purse(0, 0)", x.purse(0, 0), 9);
        Due.is("over(0, 0)", x.over(0, 0), 0);
        Due.is("pay(0, 0)", x.pay(0, 0), 2);
        Due.is("left(0)", x.left(0), 3);
        Due.is("about(5)", x.about(5), 4);
        WeatherWages loose = Mills.of("kind a;man m crop 0 loose;purse m a 3;draw 8;");
        loose.week();
        Mills.tell(loose, "kind a;man m crop 0;purse m a 3;draw 8;");
        loose.week();
        Due.is("about(5), nobody loose", loose.about(5), 8);
        Due.is("man(0, 6)", loose.man(0, 6), 0);
    }

    /** What was told of a mill is not told of the next one. */
    private static void allElseAsNotTold() {
        String five = "kind a;kind b;kind c;man m crop 1 loose;man n crop 2 loose;man o crop 3 loose;man p crop 4 loose;"
            + "man q crop 5 loose;";
        StringBuilder full = new StringBuilder(five);
        for (String man : "m n o p q".split(" ")) {
            full.append("hedge ").append(man).append(" 3;");
            for (String kind : "a b c".split(" ")) {
                full.append("purse " + man + " " + kind + " 7;pay " + man + " " + kind + " 8;");
            }
        }
        full.append("rate a 1 for b 2;rate b 1 for a 3;rate b 1 for c 4;rate c 5 for a 5;rate a 1 for c 7;rate c 1 for b 9;"
            + "book 9;book 8;book 7;book 6;book 5;hours 7;draw 8;grow third * 3;");
        WeatherWages x = Mills.of(full.toString());
        x.spend(4, 2, 5);
        Due.is("mill() of men and kinds alone", Mills.tell(x, five.replace(" loose", "")), 5);
        int[] due = {5, 3, 0, 0, 0, 0, 6, 0, 0, 0, 0, 0, 0, 0};
        for (int what = 0; what < due.length; what++) {
            Due.is("about(" + what + ")", x.about(what), due[what]);
        }
        for (int man = 0; man < 5; man++) {
            int[] of = {man + 1, 0, 0, 0, 0, 10, 0};
            for (int what = 0; what < of.length; what++) {
                Due.is("man(" + man + ", " + what + ")", x.man(man, what), of[what]);
            }
            for (int kind = 0; kind < 3; kind++) {
                Due.is("purse(" + man + ", " + kind + ")", x.purse(man, kind), 0);
                Due.is("pay(" + man + ", " + kind + ")", x.pay(man, kind), 0);
                Due.is("over(" + man + ", " + kind + ")", x.over(man, kind), 0);
            }
        }
        Due.is("gain(0)", x.gain(0), -1);
        Due.is("mill() of the full one again", Mills.tell(x, full.toString()), 5);
        Due.is("about(3)", x.about(3), 6);
    }

    private static void growAnew() {
        WeatherWages x = Mills.of("man m crop 7;grow 5 - 2;");
        Due.is("man(0, 2)", x.man(0, 2), 3);
        Mills.tell(x, "man m crop 7;grow 9 - crop - 1;");
        Due.is("man(0, 2) by another grow", x.man(0, 2), 1);
        Due.is("about(12)", x.about(12), 3);
        Mills.tell(x, "kind a;man m crop 7;purse m a 4;");
        Due.is("about(12), not told", x.about(12), 0);
        x.spend(0, 0, 2);
        Due.is("man(0, 2), not told", x.man(0, 2), 2);
        Due.is("mill() with a fault behind grow", Mills.tell(x, "man m crop 7;grow 8;?"), -1);
        Due.is("man(0, 2), all else stays", x.man(0, 2), 2);
        Mills.tell(x, "man m crop 7;grow 6;");
        Due.is("man(0, 2) by grow behind a fault", x.man(0, 2), 6);
        Due.is("about(12)", x.about(12), 1);
    }

    private static void weekNothing() {
        Due.says("4", "week 0,");
        WeatherWages x = used();
        Due.is("about(4) ahead", x.about(4), 1);
        Mills.tell(x, OTHER);
        Due.is("about(4)", x.about(4), 0);
    }

    private static void noActs() {
        Due.says("4", "no ACTS are kept,");
        WeatherWages x = used();
        Due.is("about(7) ahead", x.about(7), 2);
        Due.is("about(8) ahead", x.about(8), 1);
        Mills.tell(x, OTHER);
        Due.is("about(7)", x.about(7), 0);
        Due.is("about(8)", x.about(8), 0);
        Due.is("undo()", x.undo(), false);
        Due.is("redo()", x.redo(), false);
        Due.is("man(0, 0)", x.man(0, 0), 1);
        x.week();
        x.week();
        Due.is("undo()", x.undo(), true);
        Due.is("undo()", x.undo(), true);
        Due.is("undo()", x.undo(), false);
        WeatherWages ring = Mills.of(USED);
        for (int n = 0; n < 45; n++) {
            ring.week();
        }
        Mills.tell(ring, USED);
        ring.spend(0, 0, 2);
        ring.week();
        ring.undo();
        Due.is("man(0, 1)", ring.man(0, 1), 2);
        ring.undo();
        Due.is("purse(0, 0)", ring.purse(0, 0), 9);
        Due.is("undo() behind 45 acts", ring.undo(), false);
    }

    private static void noSights() {
        Due.says("4", "no SIGHTS are,");
        WeatherWages x = used();
        Due.is("about(9) ahead", x.about(9), 1);
        Mills.tell(x, "man m crop 1;man n crop 1;book 1;book 2;");
        Due.is("about(9)", x.about(9), 0);
        Due.is("untell(0)", x.untell(0), false);
        Due.is("orders(10)", x.orders(10), 2);
        Due.is("least(0, 2, true)", x.least(0, 2, true), 0);
        Due.is("orders(10)", x.orders(10), 1);
    }

    private static void nothingLies() {
        Due.says("4", "nothing lies there,");
        WeatherWages x = used();
        Due.lie("ahead", x, 0);
        Mills.tell(x, OTHER);
        Due.lie("mill()", x);
    }

    private static void boxesAreEmpty() {
        Due.says("4", "BOXES are empty then;");
        WeatherWages x = used();
        for (int box = 0; box < 3; box++) {
            x.image(box);
            Due.is("back(" + box + ") ahead", x.back(box), 1);
        }
        Mills.tell(x, USED);
        for (int box = 0; box < 3; box++) {
            Due.is("back(" + box + ")", x.back(box), -1);
        }
        Due.is("man(0, 0)", x.man(0, 0), 5);
    }

    private static void timeStays() {
        Due.says("4", "the TIME stays):");
        WeatherWages x = used();
        Mills.tell(x, "man m crop 1;man n crop 1;book 1;book 2;");
        Due.is("about(10)", x.about(10), 10);
        x.least(0, 2, true);
        Due.is("orders(9)", x.orders(9), 2);
        Due.is("orders(10)", x.orders(10), 1);
        Due.is("later(5)", x.later(5), 15);
    }

    private static void howManyMen() {
        Due.says("4", "how many MEN;");
        WeatherWages x = new WeatherWages();
        Due.is("mill() of nothing", x.mill(), 0);
        String men = "";
        for (int n = 1; n <= 5; n++) {
            men += "man " + "mnopq".charAt(n - 1) + " crop 1;";
            Due.is("mill() of " + n, Mills.tell(x, men), n);
        }
        Due.is("mill() of kinds and books", Mills.tell(x, "kind a;kind b;book 1;"), 0);
    }

    private static void fault() {
        Due.says("4", "NONE: a FAULT");
        WeatherWages x = new WeatherWages();
        for (String text : new String[] {"?", "sun;", "kind a;kind a;", "book 100;", "hedge m 1;", "kind a"}) {
            Due.is("mill() of " + text, Mills.tell(x, text), -1);
        }
        Due.is("mill() of five men and a fault", Mills.tell(x, "man a crop 1;man b crop 1;;"), -1);
    }

    private static void emptyAtAFault() {
        Due.says("4", "(the TAPE is empty then, too;");
        WeatherWages x = new WeatherWages();
        Due.is("mill()", Mills.tell(x, "kind a;kind"), -1);
        Due.is("about(11)", x.about(11), 0);
        Due.is("end(1)", x.end(1), -1);
        Due.is("mill() of the empty tape", x.mill(), 0);
        Due.is("about(1)", x.about(1), 0);
    }

    private static void allElseStays() {
        Due.says("4", "all else stays).");
        WeatherWages x = used();
        String other = "kind b;kind c;man n crop 1 loose;man o crop 1;purse n b 1;hedge n 1;rate b 1 for c 1;book 1;book 2;"
            + "hours 8;draw 9;grow 1 + 2;";
        Due.is("mill() with a fault", Mills.tell(x, other + "man n crop 2;"), -1);
        int[] due = {1, 1, 1, 0, 1, 4, 3, 2, 1, 1, 10, 0, 1, 1};
        for (int what = 0; what < due.length; what++) {
            Due.is("about(" + what + ")", x.about(what), due[what]);
        }
        int[] man = {12, 1, 7, 10, 2, 3, 0};
        for (int what = 0; what < man.length; what++) {
            Due.is("man(0, " + what + ")", x.man(0, what), man[what]);
        }
        Due.lie("mill() with a fault", x, 0);
        Due.is("over(0, 0)", x.over(0, 0), 1);
        Due.is("untell(0)", x.untell(0), true);
        Due.is("redo()", x.redo(), true);
        Due.is("over(0, 0)", x.over(0, 0), 3);
        Due.is("undo()", x.undo(), true);
        Due.is("undo()", x.undo(), true);
        Due.is("undo()", x.undo(), true);
        Due.is("man(0, 0)", x.man(0, 0), 5);
        Due.is("back(1)", x.back(1), 1);
        Due.is("gain(0)", x.gain(0), -1);
    }

    private static void faultOfTheLatest() {
        Due.says("5", "Of the latest mill() what 0: its FAULT (0: without; ahead of any, too),");
        WeatherWages x = new WeatherWages();
        Due.is("fault(0) ahead of any", x.fault(0), 0);
        String[] texts = {"kind a;", "kind a;?", "kind a;;", "kind a;kind a;", "book 100;", "hedge m 1;", "", "9", ""};
        int[] due = {0, 1, 2, 3, 4, 5, 0, 2, 0};
        for (int i = 0; i < texts.length; i++) {
            int ahead = x.fault(0);
            Mills.feed(x, texts[i]);
            Due.is("fault(0) ahead of mill()", x.fault(0), ahead);
            x.mill();
            Due.is("fault(0) of " + texts[i], x.fault(0), due[i]);
        }
    }

    private static void placeOfTheLatest() {
        Due.says("5", "1: its place (NONE).");
        WeatherWages x = new WeatherWages();
        Due.is("fault(1) ahead of any", x.fault(1), -1);
        Mills.tell(x, "kind a;");
        Due.is("fault(1) without", x.fault(1), -1);
        Mills.tell(x, "?");
        Due.is("fault(1) at the first byte", x.fault(1), 0);
        Mills.tell(x, "kind a;kind b;kind");
        Due.is("fault(1) at the end", x.fault(1), 18);
        Mills.feed(x, "kind a;");
        Due.is("fault(1) ahead of mill()", x.fault(1), 18);
        x.mill();
        Due.is("fault(1) without again", x.fault(1), -1);
    }

    private static void faultOfAnother() {
        Due.says("5", "NONE for another what.");
        WeatherWages x = new WeatherWages();
        for (int what : new int[] {-1, 2, 3, 5, Integer.MIN_VALUE, Integer.MAX_VALUE}) {
            Due.is("fault(" + what + ") ahead of any", x.fault(what), -1);
        }
        Mills.tell(x, "book 1;hedge m 1;");
        Due.is("fault(0)", x.fault(0), 5);
        for (int what : new int[] {-1, 2, 3, 5, Integer.MIN_VALUE, Integer.MAX_VALUE}) {
            Due.is("fault(" + what + ")", x.fault(what), -1);
        }
    }
}
