/** Promise 1: a new object is an empty mill. */
public final class NewObjectTest {
    private static final int NOWHERE = -1000000;

    public static void main(String[] args) {
        Due.is("NONE", WeatherWages.NONE, -1);
        Due.says("1", "An empty MILL.");
        numbers(new WeatherWages());
        now(new WeatherWages());
        acts(new WeatherWages());
        asked(new WeatherWages());
        sights(new WeatherWages());
        asIfToldNothing();
        apart();
        Due.end();
    }

    private static void numbers(WeatherWages x) {
        for (int what = 0; what <= 13; what++) {
            Due.is("about(" + what + ")", x.about(what), what == 6 ? 6 : 0);
        }
        Due.is("fault(0)", x.fault(0), 0);
        Due.is("fault(1)", x.fault(1), -1);
        Due.lie("new", x);
    }

    private static void now(WeatherWages x) {
        for (int what = 0; what <= 6; what++) {
            Due.is("man(0, " + what + ")", x.man(0, what), NOWHERE);
        }
        Due.is("purse(0, 0)", x.purse(0, 0), -1);
        Due.is("over(0, 0)", x.over(0, 0), -1);
        Due.is("pay(0, 0)", x.pay(0, 0), -1);
        Due.is("all(0, 0)", x.all(0, 0), -1);
        Due.is("left(0)", x.left(0), -1);
    }

    private static void acts(WeatherWages x) {
        Due.is("spend(0, 0, 1)", x.spend(0, 0, 1), -1);
        Due.is("give(0, 1, 0, 1)", x.give(0, 1, 0, 1), -1);
        Due.is("change(0, 0, 1)", x.change(0, 0, 1), -1);
        Due.is("undo()", x.undo(), false);
        Due.is("redo()", x.redo(), false);
        Due.is("week()", x.week(), 0);
        Due.is("about(4)", x.about(4), 1);
        Due.is("about(5)", x.about(5), 0);
        Due.is("undo()", x.undo(), true);
        Due.is("about(4)", x.about(4), 0);
    }

    private static void asked(WeatherWages x) {
        Due.is("best(0, 0)", x.best(0, 0), NOWHERE);
        Due.is("leaks(0)", x.leaks(0), NOWHERE);
        Due.is("good(0, 0)", x.good(0, 0), NOWHERE);
        Due.is("needs(0, 0)", x.needs(0, 0), -1);
        Due.is("pool(0, 1)", x.pool(0, 1), NOWHERE);
        Due.is("joint(0, 1)", x.joint(0, 1), NOWHERE);
        Due.is("rest()", x.rest(), 0);
        Due.is("will(0, 0)", x.will(0, 0), -1);
        Due.is("thrive(0, 0)", x.thrive(0, 0), -1);
        Due.is("saves(0, 0, 0)", x.saves(0, 0, 0), -1);
        Due.is("richest()", x.richest(), -1);
        Due.is("gulf()", x.gulf(), -1);
        Due.is("most(0)", x.most(0), -1);
        Due.is("gain(0)", x.gain(0), -1);
        Due.is("lies(0)", x.lies(0), -1);
    }

    private static void sights(WeatherWages x) {
        Due.is("least(0, 0, true)", x.least(0, 0, true), -1);
        Due.is("more(0, 1, true)", x.more(0, 1, true), -1);
        Due.is("untell(0)", x.untell(0), false);
        Due.is("orders(0)", x.orders(0), 1);
        Due.is("sure(0, 0)", x.sure(0, 0), -1);
        Due.is("ask(0, 0)", x.ask(0, 0), -1);
        Due.is("later(0)", x.later(0), 0);
        Due.is("back(0)", x.back(0), -1);
        Due.is("image(0)", x.image(0), 0);
        Due.is("back(0) behind image(0)", x.back(0), 0);
    }

    private static void asIfToldNothing() {
        WeatherWages x = new WeatherWages();
        Due.is("mill() of an empty tape", x.mill(), 0);
        numbers(x);
        now(x);
        acts(x);
    }

    /** One object knows nothing of another. */
    private static void apart() {
        WeatherWages x = Mills.of("kind a;man m crop 5;purse m a 3;book 1;draw 9;");
        x.spend(0, 0, 1);
        x.least(0, 1, true);
        x.later(3);
        x.image(0);
        x.best(0, 0);
        Mills.feed(x, "kind");
        numbers(new WeatherWages());
        now(new WeatherWages());
        sights(new WeatherWages());
        Due.is("purse(0, 0)", x.purse(0, 0), 2);
    }
}
