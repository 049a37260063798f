import java.util.Random;

/** All promises: random runs, each answer held against the second writing of the document. */
public final class RandomRunsTest {
    private static final int RUNS = 8000;
    /** An object is used for so many calls; the dearest step makes STEP of them, all() ALL. */
    private static final int CALLS = 512;
    private static final int STEP = 170;
    private static final int ALL = 192;
    /** Some texts are longer than a tape, but not by much. */
    private static final int TEXT = 1640;

    private static final int[] WILD = {-1, -2, 1000, 1600, 100000, Integer.MIN_VALUE, Integer.MAX_VALUE, 1 << 30,
        20, 21, -20, -21, 30, 31, 12, 13, 99, 100, 8, 9};

    private final Random random;
    private final RandomTexts texts;
    private WeatherWages x = new WeatherWages();
    private PlainMill y = new PlainMill();
    private String said = "";
    private int calls;

    private RandomRunsTest(long seed) {
        random = new Random(seed);
        texts = new RandomTexts(random);
    }

    public static void main(String[] args) {
        int runs = args.length > 0 ? Integer.parseInt(args[0]) : RUNS;
        long from = args.length > 1 ? Long.parseLong(args[1]) : 0;
        for (long seed = from; seed < from + runs; seed++) {
            new RandomRunsTest(seed).run(seed);
        }
        Due.end();
    }

    private void run(long seed) {
        said = "run " + seed + ": ";
        for (int texts = 0; texts < 4 && y.about(0) == 0 && calls <= CALLS - ALL - STEP; texts++) {
            tellText();
        }
        while (calls <= CALLS - ALL - STEP) {
            int what = random.nextInt(240);
            if (what < 1) {
                tellText();
            } else if (what < 120) {
                act();
            } else if (what < 145) {
                sight();
            } else {
                look();
            }
        }
        all();
        Due.holds(said + calls + " calls", calls <= CALLS);
    }

    private void check(String call, long got, long want) {
        calls++;
        Due.is(said + call, got, want);
    }

    private void check(String call, boolean got, boolean want) {
        check(call, got ? 1 : 0, want ? 1 : 0);
    }

    private void tellText() {
        String whole = texts.text();
        String text = whole.substring(0, Math.min(whole.length(), TEXT));
        for (int from = 0; from < text.length(); from += 20) {
            int[] five = new int[5];
            for (int i = 0; i < 20; i++) {
                int c = from + i < text.length() ? text.charAt(from + i) & 255 : ' ';
                five[i / 4] = five[i / 4] << 8 | c;
            }
            check("feed", x.feed(five[0], five[1], five[2], five[3], five[4]),
                y.feed(five[0], five[1], five[2], five[3], five[4]));
        }
        check("end", x.end(text.length()), y.end(text.length()));
        check("mill() of " + text, x.mill(), y.mill());
        check("fault(0) of " + text, x.fault(0), y.fault(0));
        check("fault(1) of " + text, x.fault(1), y.fault(1));
        brief();
    }

    /** What is now of those that there are. */
    private void brief() {
        for (int what = 0; what <= 13; what++) {
            check("about(" + what + ")", x.about(what), y.about(what));
        }
        for (int man = 0; man < y.about(0); man++) {
            for (int what = 0; what <= 2; what++) {
                check("man(" + man + "," + what + ")", x.man(man, what), y.man(man, what));
            }
            for (int kind = 0; kind < y.about(1); kind++) {
                check("purse(" + man + "," + kind + ")", x.purse(man, kind), y.purse(man, kind));
                check("over(" + man + "," + kind + ")", x.over(man, kind), y.over(man, kind));
            }
        }
    }

    /** Every number that tells what is now. */
    private void all() {
        for (int what = -1; what <= 14; what++) {
            check("about(" + what + ")", x.about(what), y.about(what));
        }
        for (int man = -1; man <= 5; man++) {
            for (int what = -1; what <= 7; what++) {
                check("man(" + man + "," + what + ")", x.man(man, what), y.man(man, what));
            }
            for (int kind = -1; kind <= 3; kind++) {
                check("purse(" + man + "," + kind + ")", x.purse(man, kind), y.purse(man, kind));
                check("over(" + man + "," + kind + ")", x.over(man, kind), y.over(man, kind));
                check("pay(" + man + "," + kind + ")", x.pay(man, kind), y.pay(man, kind));
            }
            check("left(" + man + ")", x.left(man), y.left(man));
        }
    }

    private void lying() {
        for (int i = -1; i <= 6; i++) {
            check("lies(" + i + ")", x.lies(i), y.lies(i));
        }
        check("about(13)", x.about(13), y.about(13));
    }

    private int wild(int low, int high) {
        return random.nextInt(25) == 0 ? WILD[random.nextInt(WILD.length)] : low + random.nextInt(high - low + 1);
    }

    private int man() {
        return wild(0, Math.max(0, y.about(0) - 1));
    }

    private int kind() {
        return wild(0, Math.max(0, y.about(1) - 1));
    }

    private void act() {
        int a = man();
        int b = man();
        int k = kind();
        int l = kind();
        int n = random.nextInt(3) > 0 ? wild(1, 2) : wild(0, 60);
        switch (random.nextInt(14)) {
            case 0, 1, 2, 3, 4 -> check("spend(" + a + "," + k + "," + n + ")", x.spend(a, k, n), y.spend(a, k, n));
            case 5, 6 -> check("give(" + a + "," + b + "," + k + "," + n + ")", x.give(a, b, k, n), y.give(a, b, k, n));
            case 7, 8 -> check("change(" + a + "," + k + "," + l + ")", x.change(a, k, l), y.change(a, k, l));
            case 9, 10 -> check("week()", x.week(), y.week());
            case 11 -> {
                for (int times = random.nextInt(4) == 0 ? 45 : 1 + random.nextInt(3); times > 0; times--) {
                    check("undo()", x.undo(), y.undo());
                }
            }
            case 12 -> check("redo()", x.redo(), y.redo());
            default -> {
                int box = wild(0, 2);
                if (random.nextBoolean()) {
                    check("image(" + box + ")", x.image(box), y.image(box));
                } else {
                    check("back(" + box + ")", x.back(box), y.back(box));
                }
            }
        }
        if (random.nextInt(10) == 0) {
            brief();
        }
    }

    private void sight() {
        int a = man();
        int b = man();
        int n = wild(0, 99);
        boolean is = random.nextInt(3) > 0;
        switch (random.nextInt(7)) {
            case 0 -> check("least(" + a + "," + n + "," + is + ")", x.least(a, n, is), y.least(a, n, is));
            case 1 -> check("least(" + a + ",5," + is + ")", x.least(a, 5, is), y.least(a, 5, is));
            case 2 -> check("more(" + a + "," + b + "," + is + ")", x.more(a, b, is), y.more(a, b, is));
            case 3 -> {
                int by = wild(0, 5);
                check("later(" + by + ")", x.later(by), y.later(by));
            }
            default -> {
                int sight = wild(0, Math.max(0, y.about(9) - 1));
                check("untell(" + sight + ")", x.untell(sight), y.untell(sight));
            }
        }
    }

    private void look() {
        int a = man();
        int b = man();
        int k = kind();
        switch (random.nextInt(16)) {
            case 0 -> {
                int what = wild(0, 1);
                check("best(" + a + "," + what + ")", x.best(a, what), y.best(a, what));
            }
            case 1 -> {
                int what = wild(0, 1);
                check("good(" + a + "," + what + ")", x.good(a, what), y.good(a, what));
            }
            case 2 -> {
                int growth = wild(-20, 20);
                check("needs(" + a + "," + growth + ")", x.needs(a, growth), y.needs(a, growth));
            }
            case 3 -> check("pool(" + a + "," + b + ")", x.pool(a, b), y.pool(a, b));
            case 4 -> check("joint(" + a + "," + b + ")", x.joint(a, b), y.joint(a, b));
            case 5 -> check("rest()", x.rest(), y.rest());
            case 6 -> check("leaks(" + a + ")", x.leaks(a), y.leaks(a));
            case 7 -> {
                int n = wild(0, 30);
                check("will(" + a + "," + n + ")", x.will(a, n), y.will(a, n));
            }
            case 8 -> {
                int n = wild(0, 12);
                check("thrive(" + a + "," + n + ")", x.thrive(a, n), y.thrive(a, n));
            }
            case 9 -> {
                int hours = wild(0, 99);
                check("saves(" + a + "," + k + "," + hours + ")", x.saves(a, k, hours), y.saves(a, k, hours));
            }
            case 10, 11 -> purses(a, k);
            case 12 -> {
                for (int what = -1; what <= 3; what++) {
                    check("gain(" + what + ")", x.gain(what), y.gain(what));
                }
            }
            default -> orders(a);
        }
        if (random.nextInt(3) == 0) {
            lying();
        }
    }

    private void purses(int a, int k) {
        check("richest()", x.richest(), y.richest());
        check("gulf()", x.gulf(), y.gulf());
        check("most(" + a + ")", x.most(a), y.most(a));
        int what = wild(0, 1);
        check("all(" + k + "," + what + ")", x.all(k, what), y.all(k, what));
    }

    private void orders(int a) {
        int at = wild(0, y.about(10) + 1);
        check("orders(" + at + ")", x.orders(at), y.orders(at));
        check("sure(" + a + "," + at + ")", x.sure(a, at), y.sure(a, at));
        for (int what = -1; what <= 2; what++) {
            check("ask(" + what + "," + at + ")", x.ask(what, at), y.ask(what, at));
        }
    }
}
