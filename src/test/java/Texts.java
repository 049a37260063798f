/** Texts of mills, told to an object of their own, and the fault that is due. */
final class Texts {
    static final String[] RESERVED = {"kind", "man", "crop", "loose", "purse", "pay", "hedge", "rate",
        "for", "book", "grow", "hours", "draw", "or", "and", "not", "first", "second", "third", "week", "plot"};
    /** Two kinds and two men, of the same names. */
    static final String TWO = "kind a;kind b;man a crop 1;man b crop 1;";

    private Texts() {
    }

    static WeatherWages told(String text, int men) {
        WeatherWages x = new WeatherWages();
        Due.is("mill() of " + text, Mills.tell(x, text), men);
        Due.is("fault(0) of " + text, x.fault(0), 0);
        Due.is("fault(1) of " + text, x.fault(1), -1);
        Due.is("about(11) of " + text, x.about(11), 0);
        return x;
    }

    /** A text whose place of the fault is marked by @. */
    static void fault(int what, String marked) {
        int place = marked.indexOf('@');
        faultAt(what, place, marked.substring(0, place) + marked.substring(place + 1));
    }

    static void faultAt(int what, int place, String text) {
        WeatherWages x = new WeatherWages();
        Due.is("mill() of " + text, Mills.tell(x, text), -1);
        Due.is("fault(0) of " + text, x.fault(0), what);
        Due.is("fault(1) of " + text, x.fault(1), place);
        Due.is("about(0) of " + text, x.about(0), 0);
        Due.is("about(11) of " + text, x.about(11), 0);
    }

    /** GROWTH of a plot that nothing is over, in week 0. */
    static void grows(String formula, int due) {
        WeatherWages x = Mills.of("man m crop 7;grow " + formula + ";");
        Due.is("growth by " + formula, x.man(0, 2), due);
    }

    static String times(int n, String text) {
        StringBuilder many = new StringBuilder();
        for (int i = 0; i < n; i++) {
            many.append(text);
        }
        return many.toString();
    }
}
