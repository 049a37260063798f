/** Promise 1: a new object is an empty mill. */
public final class NewObjectTest {
    public static void main(String[] args) {
        emptyNumbers(new WeatherWages());
        emptyAnswers(new WeatherWages());
        Due.is("NONE", WeatherWages.NONE, -1);
        Due.end();
    }

    private static void emptyNumbers(WeatherWages x) {
        for (int what = 0; what <= 13; what++) {
            Due.is("about(" + what + ")", x.about(what), what == 6 ? 6 : 0);
        }
    }

    private static void emptyAnswers(WeatherWages x) {
        Due.is("fault(0)", x.fault(0), 0);
        Due.is("fault(1)", x.fault(1), -1);
        Due.is("man(0, 0)", x.man(0, 0), -1000000);
        Due.is("purse(0, 0)", x.purse(0, 0), -1);
        Due.is("back(0)", x.back(0), -1);
        Due.is("undo()", x.undo(), false);
        Due.is("redo()", x.redo(), false);
        Due.is("richest()", x.richest(), -1);
        Due.is("orders(0)", x.orders(0), 1);
        Due.lie("new", x);
        Due.is("mill()", x.mill(), 0);
    }
}
