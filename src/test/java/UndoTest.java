/** Section 2 of the terms, promises 16 and 17: ACTS taken back and done again. */
public final class UndoTest {
    private static final String MILL = "kind a;kind b;man m crop 10;man n crop 20;man o crop 30 loose;"
        + "purse m a 9;purse m b 1;purse n a 60;purse o b 60;hedge m 5;hedge n 0;hours 8;rate a 1 for b 1;draw 5;pay m a 3;";

    public static void main(String[] args) {
        latest();
        again();
        tillAnother();
        refusedIsNoAct();
        asked();
        forty();
        ring();
        undo();
        undoNothing();
        redo();
        redoNothing();
        Due.end();
    }

    private static void act(WeatherWages x, int n) {
        switch (n) {
            case 0 -> x.spend(0, 0, 4);
            case 1 -> x.give(1, 2, 0, 3);
            case 2 -> x.change(0, 0, 1);
            case 3 -> x.week();
            default -> x.spend(2, 1, 5);
        }
    }

    private static void latest() {
        Due.says("T2", "UNDO takes back the latest ACT that was not,");
        WeatherWages x = Mills.of(MILL);
        String[] states = new String[5];
        for (int n = 0; n < 5; n++) {
            states[n] = Mills.state(x);
            act(x, n);
            Due.is("about(7)", x.about(7), n + 1);
        }
        for (int n = 4; n >= 0; n--) {
            Due.is("undo()", x.undo(), true);
            Due.holds("state ahead of act " + n, Mills.state(x).equals(states[n]));
            Due.is("about(7)", x.about(7), n);
            Due.is("about(8)", x.about(8), 5 - n);
        }
        x.redo();
        x.redo();
        Due.is("undo() behind redo()", x.undo(), true);
        Due.holds("state ahead of act 1", Mills.state(x).equals(states[1]));
    }

    private static void again() {
        Due.says("T2", "REDO does that again which was taken back last");
        for (int back = 1; back <= 5; back++) {
            WeatherWages x = Mills.of(MILL);
            String[] states = new String[5];
            for (int n = 0; n < 5; n++) {
                act(x, n);
                states[n] = Mills.state(x);
            }
            for (int n = 0; n < back; n++) {
                x.undo();
            }
            for (int n = 5 - back; n < 5; n++) {
                Due.is("redo()", x.redo(), true);
                Due.holds("state behind act " + n, Mills.state(x).equals(states[n]));
                Due.is("about(7)", x.about(7), n + 1);
                Due.is("about(8)", x.about(8), 4 - n);
            }
            Due.is("redo() of nothing", x.redo(), false);
        }
    }

    private static void tillAnother() {
        Due.says("T2", "(till another ACT);");
        for (int n = 0; n < 4; n++) {
            WeatherWages x = Mills.of(MILL);
            x.give(1, 0, 0, 1);
            x.give(1, 0, 0, 2);
            x.give(1, 0, 0, 3);
            x.undo();
            x.undo();
            Due.is("about(8)", x.about(8), 2);
            act(x, n);
            Due.is("about(8) behind act " + n, x.about(8), 0);
            Due.is("about(7) behind act " + n, x.about(7), 2);
            String state = Mills.state(x);
            Due.is("redo() behind act " + n, x.redo(), false);
            Due.holds("nothing is done", Mills.state(x).equals(state));
            x.undo();
            Due.is("purse(0, 0)", x.purse(0, 0), 10);
            Due.is("about(8)", x.about(8), 1);
        }
    }

    private static void refusedIsNoAct() {
        WeatherWages x = Mills.of(MILL);
        x.spend(0, 0, 1);
        x.spend(0, 0, 2);
        x.undo();
        x.spend(0, 0, 99);
        x.give(0, 0, 0, 1);
        x.change(0, 1, 0);
        x.back(0);
        x.end(5);
        Mills.tell(x, "?");
        Due.is("about(7)", x.about(7), 1);
        Due.is("about(8)", x.about(8), 1);
        Due.is("redo() behind what was no act", x.redo(), true);
        Due.is("over(0, 0)", x.over(0, 0), 3);
    }

    private static void asked() {
        WeatherWages x = Mills.of(MILL + "book 1;book 2;");
        x.spend(0, 0, 1);
        x.spend(0, 0, 2);
        x.undo();
        x.best(0, 0);
        x.good(0, 0);
        x.needs(0, 1);
        x.pool(0, 1);
        x.joint(0, 1);
        x.rest();
        x.will(0, 3);
        x.thrive(0, 3);
        x.image(0);
        x.least(0, 1, true);
        x.later(3);
        Due.is("redo() behind what was asked", x.redo(), true);
        Due.is("over(0, 0)", x.over(0, 0), 3);
        Due.is("undo() leaves sights", x.undo(), true);
        Due.is("about(9)", x.about(9), 1);
        Due.is("about(10)", x.about(10), 3);
    }

    private static void forty() {
        Due.says("T2", "40 at most are kept, the oldest go.");
        for (int acts : new int[] {39, 40, 41, 42, 80, 81, 82, 100}) {
            WeatherWages x = Mills.of("kind a;man m crop 0;man n crop 0;pay m a 1;");
            for (int n = 1; n <= acts; n++) {
                x.week();
            }
            int kept = Math.min(acts, 40);
            Due.is("about(7) of " + acts, x.about(7), kept);
            for (int n = 1; n <= kept; n++) {
                Due.is("undo() " + n + " of " + acts, x.undo(), true);
            }
            Due.is("about(4) of " + acts, x.about(4), acts - kept);
            Due.is("purse(0, 0) of " + acts, x.purse(0, 0), Math.min(99, acts - kept));
            Due.is("about(8) of " + acts, x.about(8), kept);
            Due.is("undo() of one that went", x.undo(), false);
            for (int n = 1; n <= kept; n++) {
                Due.is("redo() " + n + " of " + acts, x.redo(), true);
            }
            Due.is("about(4) of " + acts, x.about(4), acts);
            Due.is("redo() of nothing", x.redo(), false);
        }
    }

    /** Those that were taken back and not done again make place for others. */
    private static void ring() {
        WeatherWages x = Mills.of("kind a;man m crop 0;");
        for (int n = 1; n <= 60; n++) {
            x.week();
        }
        for (int n = 1; n <= 30; n++) {
            x.undo();
        }
        Due.is("about(4)", x.about(4), 30);
        for (int n = 1; n <= 20; n++) {
            x.week();
        }
        Due.is("about(7)", x.about(7), 30);
        Due.is("about(8)", x.about(8), 0);
        for (int n = 1; n <= 11; n++) {
            x.week();
        }
        Due.is("about(7)", x.about(7), 40);
        for (int n = 1; n <= 40; n++) {
            Due.is("undo()", x.undo(), true);
        }
        Due.is("undo() of one that went", x.undo(), false);
        Due.is("about(4)", x.about(4), 21);
        WeatherWages y = Mills.of("kind a;man m crop 0;man n crop 0;purse m a 60;");
        for (int n = 0; n < 47; n++) {
            y.give(0, 1, 0, 1);
        }
        y.image(0);
        y.back(0);
        y.give(0, 1, 0, 1);
        Due.is("undo() behind back()", y.undo(), true);
        Due.is("purse(0, 0)", y.purse(0, 0), 13);
        Due.is("undo()", y.undo(), false);
        Due.is("redo()", y.redo(), true);
        Due.is("purse(0, 0)", y.purse(0, 0), 12);
    }

    private static void undo() {
        Due.says("16", "UNDO: true;");
        WeatherWages x = new WeatherWages();
        x.week();
        Due.is("undo() of an empty mill's week", x.undo(), true);
        Due.is("about(4)", x.about(4), 0);
        WeatherWages y = Mills.of(MILL);
        y.spend(0, 0, 4);
        Due.is("undo()", y.undo(), true);
        Due.is("over(0, 0)", y.over(0, 0), 0);
    }

    private static void undoNothing() {
        Due.says("16", "false if there is none.");
        Due.is("undo() of a new object", new WeatherWages().undo(), false);
        WeatherWages x = Mills.of(MILL);
        Due.is("undo() of nothing", x.undo(), false);
        x.spend(0, 0, 9);
        Due.is("undo() of what was refused", x.undo(), false);
        x.week();
        x.undo();
        String state = Mills.state(x);
        Due.is("undo() a second time", x.undo(), false);
        Due.is("undo() a third time", x.undo(), false);
        Due.holds("nothing is done", Mills.state(x).equals(state));
        Due.is("about(8)", x.about(8), 1);
        Due.is("redo()", x.redo(), true);
        x.best(0, 0);
        x.later(1);
        Due.is("about(7)", x.about(7), 1);
    }

    private static void redo() {
        Due.says("17", "REDO: true;");
        WeatherWages x = new WeatherWages();
        x.week();
        x.undo();
        Due.is("redo() of an empty mill's week", x.redo(), true);
        Due.is("about(4)", x.about(4), 1);
        Due.is("about(7)", x.about(7), 1);
        Due.is("about(8)", x.about(8), 0);
    }

    private static void redoNothing() {
        Due.says("17", "false if there is none.");
        Due.is("redo() of a new object", new WeatherWages().redo(), false);
        WeatherWages x = Mills.of(MILL);
        Due.is("redo() of nothing", x.redo(), false);
        x.spend(0, 0, 4);
        Due.is("redo() ahead of undo()", x.redo(), false);
        x.undo();
        x.redo();
        String state = Mills.state(x);
        Due.is("redo() a second time", x.redo(), false);
        Due.holds("nothing is done", Mills.state(x).equals(state));
        Due.is("about(7)", x.about(7), 1);
    }
}
