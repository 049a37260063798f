/** A mill that pays its wages in weather. What each call means is told in ../shared/DOC.md. */
public final class WeatherWages {
    public static final int NONE = -1;

    private static final int NOT_THERE = -1000000;
    private static final int KINDS = 3;
    private static final int MEN = 5;
    private static final int PAIRS = MEN * KINDS;
    private static final int BOOKS = 5;
    private static final int TAPE_BYTES = 1600;
    private static final int FED_BYTES = 20;
    private static final int PURSE_MOST = 99;
    private static final int CROP_MOST = 99;
    private static final int GROWTH_MOST = 20;
    private static final int SPEND_MOST = 8;
    private static final int GIVE_MOST = 99;
    private static final int WEEKS_MOST = 999;
    private static final int WILL_WEEKS = 30;
    private static final int THRIVE_WEEKS = 12;
    private static final int SAVES_WEEKS = 60;
    private static final int BOX_COUNT = 3;

    private final Tape tape;
    private final MillReader reader;
    private final Mill mill;
    private final State now;
    private final Acts acts;
    private final Planner planner;
    private final Shelf shelf;
    private final Sights sights;
    private final int[] boxes;
    private final boolean[] boxKept;

    public WeatherWages() {
        tape = new Tape();
        reader = new MillReader(tape);
        mill = new Mill();
        now = new State(mill);
        acts = new Acts(now);
        planner = new Planner(mill, now);
        shelf = new Shelf();
        sights = new Sights(mill);
        boxes = new int[BOX_COUNT * State.CELLS];
        boxKept = new boolean[BOX_COUNT];
    }

    // ---- the tape and the mill

    public int feed(int a, int b, int c, int d, int e) {
        if (tape.length > TAPE_BYTES - FED_BYTES) {
            return NONE;
        }
        tape.append(a);
        tape.append(b);
        tape.append(c);
        tape.append(d);
        tape.append(e);
        return tape.length;
    }

    public int end(int n) {
        if (n < 0 || n > tape.length) {
            return NONE;
        }
        tape.length = n;
        return n;
    }

    public int mill() {
        boolean told = reader.readMill();
        tape.length = 0;
        if (!told) {
            return NONE;
        }
        mill.become(reader.draft);
        now.begin();
        acts.forget();
        shelf.clear();
        sights.forget();
        for (int box = 0; box < boxKept.length; box++) {
            boxKept[box] = false;
        }
        return mill.men;
    }

    public int fault(int what) {
        if (what == 0) {
            return reader.faultFound();
        }
        return what == 1 ? reader.faultPlace() : NONE;
    }

    // ---- what is now

    public int man(int man, int what) {
        if (!mill.hasMan(man)) {
            return NOT_THERE;
        }
        switch (what) {
            case 0: return now.cropOf(man);
            case 1: return now.spentBy(man);
            case 2: return now.growthOf(man);
            case 3: return now.purseSum(man);
            case 4: return mill.wageSum(man);
            case 5: return cell(mill.hedges, man);
            case 6: return mill.isLoose(man) ? 1 : 0;
            default: return NOT_THERE;
        }
    }

    public int purse(int man, int kind) {
        return mill.hasPair(man, kind) ? now.purseOf(man, kind) : NONE;
    }

    public int over(int man, int kind) {
        return mill.hasPair(man, kind) ? now.overAt(man, kind) : NONE;
    }

    public int pay(int man, int kind) {
        return mill.hasPair(man, kind) ? mill.wageOf(man, kind) : NONE;
    }

    public int all(int kind, int what) {
        if (!mill.hasKind(kind) || what < 0 || what > 1) {
            return NONE;
        }
        int sum = 0;
        for (int man = 0; man < mill.men; man++) {
            sum += what == 0 ? now.purseOf(man, kind) : now.overAt(man, kind);
        }
        return sum;
    }

    public int left(int man) {
        return mill.hasMan(man) ? now.leftOf(man) : NONE;
    }

    // ---- acts

    public int spend(int man, int kind, int n) {
        if (!mill.hasPair(man, kind) || n < 1 || n > SPEND_MOST) {
            return NONE;
        }
        if (n > now.purseOf(man, kind) || n > now.leftOf(man)) {
            return NONE;
        }
        now.spendHours(man, kind, n);
        acts.keep();
        return now.overAt(man, kind);
    }

    public int give(int man, int other, int kind, int n) {
        if (!mill.hasPair(man, kind) || !mill.hasMan(other) || man == other) {
            return NONE;
        }
        if (n < 1 || n > GIVE_MOST || n > now.purseOf(man, kind)) {
            return NONE;
        }
        now.addToPurse(man, kind, -n);
        now.addToPurse(other, kind, n);
        acts.keep();
        return now.purseOf(other, kind);
    }

    public int change(int man, int kind, int other) {
        if (!mill.hasPair(man, kind) || !mill.hasPair(man, other)) {
            return NONE;
        }
        int price = mill.rateGiven(kind, other);
        if (price == 0 || price > now.purseOf(man, kind)) {
            return NONE;
        }
        now.addToPurse(man, kind, -price);
        now.addToPurse(man, other, mill.rateGot(kind, other));
        acts.keep();
        return now.purseOf(man, other);
    }

    public int week() {
        if (now.weekNow() >= WEEKS_MOST) {
            return NOT_THERE;
        }
        int growths = now.goWeek();
        acts.keep();
        return growths;
    }

    public boolean undo() {
        return acts.goBack();
    }

    public boolean redo() {
        return acts.goOn();
    }

    // ---- what is best, what lies ahead

    public int best(int man, int what) {
        shelf.clear();
        if (!mill.hasMan(man) || what < 0 || what > 1) {
            return NOT_THERE;
        }
        int growth = planner.findBest(man);
        shelf.layRow(planner.rows, man, mill.kinds);
        return what == 0 ? growth : planner.hoursOf(man);
    }

    public int leaks(int man) {
        return mill.hasMan(man) ? planner.leakOfBest(man) : NOT_THERE;
    }

    public int good(int man, int what) {
        shelf.clear();
        if (!mill.hasMan(man) || what < 0 || what > 1) {
            return NOT_THERE;
        }
        int growths = planner.findGood(man);
        shelf.layRow(planner.rows, man, mill.kinds);
        return what == 0 ? growths : planner.hoursOf(man);
    }

    public int needs(int man, int growth) {
        shelf.clear();
        if (!mill.hasMan(man) || growth < -GROWTH_MOST || growth > GROWTH_MOST) {
            return NONE;
        }
        if (!planner.findNeeds(man, growth)) {
            return NONE;
        }
        shelf.layRow(planner.rows, man, mill.kinds);
        return planner.hoursOf(man);
    }

    public int pool(int man, int other) {
        shelf.clear();
        if (!mill.hasTwo(man, other)) {
            return NOT_THERE;
        }
        int growths = planner.findPool(man, other);
        shelf.layRow(planner.rows, man, mill.kinds);
        shelf.layRow(planner.rows, other, mill.kinds);
        return growths;
    }

    public int joint(int man, int other) {
        if (!mill.hasTwo(man, other)) {
            return NOT_THERE;
        }
        return planner.findPool(man, other) - planner.bestInTurn(man, other);
    }

    public int rest() {
        shelf.clear();
        int rounds = planner.roundsToRest();
        if (rounds == NONE) {
            return NONE;
        }
        for (int man = 0; man < mill.men; man++) {
            shelf.lay(planner.hoursOf(man));
        }
        return rounds;
    }

    public int will(int man, int n) {
        if (!mill.hasMan(man) || n < 0 || n > WILL_WEEKS) {
            return NONE;
        }
        return planner.cropLeftAlone(man, n);
    }

    public int thrive(int man, int n) {
        if (!mill.hasMan(man) || n < 0 || n > THRIVE_WEEKS) {
            return NONE;
        }
        return planner.cropAtBest(man, n);
    }

    public int saves(int man, int kind, int hours) {
        if (!mill.hasPair(man, kind) || hours < 0 || hours > PURSE_MOST) {
            return NONE;
        }
        for (int weeks = 0; weeks <= SAVES_WEEKS; weeks++) {
            if (now.purseOf(man, kind) + weeks * mill.wageOf(man, kind) >= hours) {
                return weeks;
            }
        }
        return NONE;
    }

    // ---- purses compared, rates

    public int richest() {
        int first = NONE;
        for (int man = 0; man < mill.men; man++) {
            if (first == NONE || now.purseSum(man) > now.purseSum(first)) {
                first = man;
            }
        }
        return first;
    }

    public int gulf() {
        int rich = richest();
        if (rich == NONE) {
            return NONE;
        }
        int fewest = now.purseSum(rich);
        for (int man = 0; man < mill.men; man++) {
            fewest = Math.min(fewest, now.purseSum(man));
        }
        return now.purseSum(rich) - fewest;
    }

    public int most(int man) {
        if (!mill.hasMan(man)) {
            return NONE;
        }
        int first = NONE;
        for (int kind = 0; kind < mill.kinds; kind++) {
            if (first == NONE || now.purseOf(man, kind) > now.purseOf(man, first)) {
                first = kind;
            }
        }
        return first;
    }

    public int gain(int what) {
        int round = mill.bestRound();
        if (round == NONE) {
            return NONE;
        }
        int upper = mill.roundGot(round);
        int lower = mill.roundGiven(round);
        int common = commonDivisor(upper, lower);
        switch (what) {
            case 0: return upper / common;
            case 1: return lower / common;
            case 2: return mill.roundKinds(round);
            default: return NONE;
        }
    }

    public int lies(int i) {
        return shelf.numberAt(i);
    }

    // ---- sights of books

    public int least(int man, int number, boolean is) {
        if (!mill.hasReader(man) || number < 0 || number > 99) {
            return NONE;
        }
        return sights.tell(man, NONE, number, is);
    }

    public int more(int man, int other, boolean is) {
        if (!mill.hasReader(man) || !mill.hasReader(other) || man == other) {
            return NONE;
        }
        return sights.tell(man, other, 0, is);
    }

    public boolean untell(int sight) {
        return sights.takeBack(sight);
    }

    public int later(int by) {
        return sights.passTime(by);
    }

    public int orders(int k) {
        return sights.countOrders(k);
    }

    public int sure(int man, int k) {
        return mill.hasReader(man) ? sights.sureBook(man, k) : NONE;
    }

    public int ask(int what, int k) {
        if (what < 0 || what > 1) {
            return NONE;
        }
        int man = sights.manToAsk(k);
        if (man == NONE) {
            return NONE;
        }
        return what == 0 ? man : sights.mostLeft(man);
    }

    // ---- images, numbers

    public int image(int box) {
        if (box < 0 || box >= boxKept.length) {
            return NONE;
        }
        now.saveTo(boxes, box);
        boxKept[box] = true;
        return now.weekNow();
    }

    public int back(int box) {
        if (box < 0 || box >= boxKept.length || !boxKept[box]) {
            return NONE;
        }
        now.loadFrom(boxes, box);
        acts.forget();
        return now.weekNow();
    }

    public int about(int what) {
        switch (what) {
            case 0: return mill.men;
            case 1: return mill.kinds;
            case 2: return mill.books;
            case 3: return mill.rates;
            case 4: return now.weekNow();
            case 5: return now.seedNow();
            case 6: return mill.hours;
            case 7: return acts.undoable();
            case 8: return acts.redoable();
            case 9: return sights.count;
            case 10: return sights.time;
            case 11: return tape.length;
            case 12: return mill.formula.units;
            case 13: return shelf.count;
            default: return NONE;
        }
    }

    // ---- helpers of all classes

    private static int cell(int[] row, int i) {
        return i >= 0 && i < row.length ? row[i] : 0;
    }

    private static void put(int[] row, int i, int value) {
        if (i >= 0 && i < row.length) {
            row[i] = value;
        }
    }

    private static void copyInts(int[] from, int[] to) {
        System.arraycopy(from, 0, to, 0, Math.min(from.length, to.length));
    }

    /** At least 1, so that it can divide. */
    private static int commonDivisor(int a, int b) {
        int high = Math.max(a, b);
        int low = Math.min(a, b);
        for (int steps = 0; steps < 100 && low > 0; steps++) {
            int rest = high % low;
            high = low;
            low = rest;
        }
        return Math.max(high, 1);
    }

    /** The bytes that are fed, till they are told as a mill. */
    private static final class Tape {
        private final byte[] bytes = new byte[TAPE_BYTES];
        int length;

        void append(int four) {
            for (int shift = 24; shift >= 0; shift -= 8) {
                if (length >= 0 && length < bytes.length) {
                    bytes[length] = (byte) (four >> shift);
                    length++;
                }
            }
        }

        /** NONE behind the last byte. */
        int byteAt(int place) {
            return place >= 0 && place < length && place < bytes.length ? bytes[place] & 255 : NONE;
        }
    }

    /** Parts the tape into tokens, one ahead, and keeps the first fault that is found in them. */
    private static final class Scanner {
        static final int END = 0;
        static final int NO_TOKEN = 1;
        static final int WORD = 2;
        static final int NUMBER = 3;

        static final int BAD_TOKEN = 1;
        static final int CANT_STAND = 2;
        static final int TOLD_ALREADY = 3;
        static final int BAD_NUMBER = 4;
        static final int UNKNOWN_NAME = 5;

        private static final int WORD_LETTERS = 8;
        private static final int NUMBER_DIGITS = 4;

        private final Tape tape;
        /** One of the sorts above, or a sign's own byte. */
        int sort;
        /** A word's letters as a number, so that names are kept without objects. */
        long name;
        int number;
        /** The number that was taken last: the token itself is gone then. */
        int taken;
        int fault;
        int faultPlace;
        private int place;
        private int next;

        Scanner(Tape tape) {
            this.tape = tape;
            faultPlace = NONE;
        }

        void begin() {
            fault = 0;
            faultPlace = NONE;
            next = 0;
            step();
        }

        void step() {
            while (next < tape.length && isBlank(tape.byteAt(next))) {
                next++;
            }
            place = next;
            int first = tape.byteAt(next);
            if (first == NONE) {
                sort = END;
            } else if (isLetter(first)) {
                stepWord();
            } else if (isDigit(first)) {
                stepNumber();
            } else {
                sort = isSign(first) ? first : NO_TOKEN;
                next++;
            }
        }

        private void stepWord() {
            name = 0;
            while (next < tape.length && isLetter(tape.byteAt(next))) {
                name = name * 27 + (tape.byteAt(next) - 'a' + 1);
                next++;
            }
            sort = next - place > WORD_LETTERS ? NO_TOKEN : WORD;
        }

        private void stepNumber() {
            number = 0;
            while (next < tape.length && isDigit(tape.byteAt(next))) {
                number = number * 10 + (tape.byteAt(next) - '0');
                next++;
            }
            boolean tooLong = next - place > NUMBER_DIGITS;
            sort = tooLong || isLetter(tape.byteAt(next)) ? NO_TOKEN : NUMBER;
        }

        private static boolean isBlank(int b) {
            return b == 32 || b == 10;
        }

        private static boolean isLetter(int b) {
            return b >= 'a' && b <= 'z';
        }

        private static boolean isDigit(int b) {
            return b >= '0' && b <= '9';
        }

        private static boolean isSign(int b) {
            switch (b) {
                case ';': case '(': case ')': case '<': case '>': case '=':
                case '+': case '-': case '*': case '/': case '%':
                    return true;
                default:
                    return false;
            }
        }

        boolean says(String word) {
            if (sort != WORD || next - place != word.length()) {
                return false;
            }
            for (int i = 0; i < word.length(); i++) {
                if (word.charAt(i) != tape.byteAt(place + i)) {
                    return false;
                }
            }
            return true;
        }

        /** A word that the language has for itself is no name. */
        boolean isName() {
            boolean ofLines = says("kind") || says("man") || says("crop") || says("loose")
                || says("purse") || says("pay") || says("hedge") || says("rate") || says("for")
                || says("book") || says("grow") || says("hours") || says("draw");
            boolean ofFormulas = says("or") || says("and") || says("not") || says("first")
                || says("second") || says("third") || says("week") || says("plot");
            return sort == WORD && !ofLines && !ofFormulas;
        }

        /** Always false, so that a reader can hand it on. At one place the least fault counts. */
        boolean refuse(int what) {
            fault = sort == NO_TOKEN ? BAD_TOKEN : what;
            faultPlace = place;
            return false;
        }

        boolean takesSign(int sign) {
            if (sort != sign) {
                return refuse(CANT_STAND);
            }
            step();
            return true;
        }

        boolean takesWord(String word) {
            if (!says(word)) {
                return refuse(CANT_STAND);
            }
            step();
            return true;
        }

        boolean takesNumber(int low, int high) {
            if (sort != NUMBER) {
                return refuse(CANT_STAND);
            }
            if (number < low || number > high) {
                return refuse(BAD_NUMBER);
            }
            taken = number;
            step();
            return true;
        }
    }

    /** What of grow is told: postfix code, so that it needs no objects. */
    private static final class Formula {
        /** Below LEAF a number of the text, from LEAF on a leaf, from SIGN on a sign's byte. */
        static final int LEAF = 10000;
        static final int SIGN = 20000;
        static final int NOT = SIGN + '!';
        static final int AND = SIGN + '&';
        static final int OR = SIGN + '|';
        static final int FIRST = 0;
        static final int CROP = 3;
        static final int WEEK = 4;
        static final int PLOT = 5;
        static final int LEAVES = 6;

        /** 30 units, 29 signs between them, 7 nots ahead of each are the most there can be. */
        private static final int CODE = 300;
        private static final int STACK = 32;

        private final int[] code = new int[CODE];
        private final int[] stack = new int[STACK];
        private int length;
        int units;

        void clear() {
            length = 0;
            units = 0;
        }

        void become(Formula other) {
            copyInts(other.code, code);
            length = other.length;
            units = other.units;
        }

        void write(int piece) {
            if (length >= 0 && length < code.length) {
                code[length] = piece;
                length++;
            }
        }

        int worth(int[] leaves) {
            if (length == 0) {
                return cell(leaves, FIRST) + cell(leaves, FIRST + 1) + cell(leaves, FIRST + 2);
            }
            int top = 0;
            for (int i = 0; i < length && i < code.length; i++) {
                int piece = code[i];
                if (piece == NOT) {
                    put(stack, top - 1, cell(stack, top - 1) == 0 ? 1 : 0);
                } else if (piece >= SIGN) {
                    top--;
                    put(stack, top - 1, joined(piece - SIGN, cell(stack, top - 1), cell(stack, top)));
                } else {
                    put(stack, top, piece >= LEAF ? cell(leaves, piece - LEAF) : piece);
                    top++;
                }
            }
            return cell(stack, 0);
        }

        private static int joined(int sign, int a, int b) {
            switch (sign) {
                case '+': return a + b;
                case '-': return a - b;
                case '*': return a * b;
                case '/': return b == 0 ? 0 : a / b;
                case '%': return b == 0 ? 0 : a % b;
                case '<': return a < b ? 1 : 0;
                case '>': return a > b ? 1 : 0;
                case '=': return a == b ? 1 : 0;
                case '&': return a != 0 && b != 0 ? 1 : 0;
                case '|': return a != 0 || b != 0 ? 1 : 0;
                default: return 0;
            }
        }
    }

    /** Reads e of the grammar (readEither(0)). Each function is false when a fault was found. */
    private static final class FormulaReader {
        private static final int UNITS_MOST = 30;
        private static final int DEPTH_MOST = 7;

        private final Scanner scanner;
        private final Formula formula;

        FormulaReader(Scanner scanner, Formula formula) {
            this.scanner = scanner;
            this.formula = formula;
        }

        private boolean readEither(int depth) {
            boolean fine = readBoth(depth);
            for (int n = 0; n < TAPE_BYTES && fine && scanner.says("or"); n++) {
                scanner.step();
                fine = readBoth(depth);
                formula.write(Formula.OR);
            }
            return fine;
        }

        private boolean readBoth(int depth) {
            boolean fine = readOne(depth);
            for (int n = 0; n < TAPE_BYTES && fine && scanner.says("and"); n++) {
                scanner.step();
                fine = readOne(depth);
                formula.write(Formula.AND);
            }
            return fine;
        }

        private boolean readOne(int depth) {
            if (scanner.says("not")) {
                if (depth >= DEPTH_MOST) {
                    return scanner.refuse(Scanner.CANT_STAND);
                }
                scanner.step();
                boolean fine = readOne(depth + 1);
                formula.write(Formula.NOT);
                return fine;
            }
            boolean fine = readSum(depth);
            int sign = scanner.sort;
            if (fine && (sign == '<' || sign == '>' || sign == '=')) {
                scanner.step();
                fine = readSum(depth);
                formula.write(Formula.SIGN + sign);
            }
            return fine;
        }

        private boolean readSum(int depth) {
            boolean fine = readTerm(depth);
            for (int n = 0; n < TAPE_BYTES && fine && isSumSign(scanner.sort); n++) {
                int sign = scanner.sort;
                scanner.step();
                fine = readTerm(depth);
                formula.write(Formula.SIGN + sign);
            }
            return fine;
        }

        private boolean readTerm(int depth) {
            boolean fine = readUnit(depth);
            for (int n = 0; n < TAPE_BYTES && fine && isTermSign(scanner.sort); n++) {
                int sign = scanner.sort;
                scanner.step();
                fine = readUnit(depth);
                formula.write(Formula.SIGN + sign);
            }
            return fine;
        }

        private static boolean isSumSign(int sort) {
            return sort == '+' || sort == '-';
        }

        private static boolean isTermSign(int sort) {
            return sort == '*' || sort == '/' || sort == '%';
        }

        private boolean readUnit(int depth) {
            boolean bracket = scanner.sort == '(';
            int leaf = bracket ? NONE : leafTold();
            if (!bracket && leaf == NONE || formula.units >= UNITS_MOST) {
                return scanner.refuse(Scanner.CANT_STAND);
            }
            if (bracket && depth >= DEPTH_MOST) {
                return scanner.refuse(Scanner.CANT_STAND);
            }
            formula.units++;
            scanner.step();
            if (!bracket) {
                formula.write(leaf);
                return true;
            }
            if (!readEither(depth + 1)) {
                return false;
            }
            if (scanner.sort != ')') {
                return scanner.refuse(Scanner.CANT_STAND);
            }
            scanner.step();
            return true;
        }

        /** The piece of code of the present token; NONE if it is no leaf. */
        private int leafTold() {
            if (scanner.sort == Scanner.NUMBER) {
                return scanner.number;
            }
            if (scanner.says("first")) {
                return Formula.LEAF + Formula.FIRST;
            }
            if (scanner.says("second")) {
                return Formula.LEAF + Formula.FIRST + 1;
            }
            if (scanner.says("third")) {
                return Formula.LEAF + Formula.FIRST + 2;
            }
            if (scanner.says("crop")) {
                return Formula.LEAF + Formula.CROP;
            }
            if (scanner.says("week")) {
                return Formula.LEAF + Formula.WEEK;
            }
            return scanner.says("plot") ? Formula.LEAF + Formula.PLOT : NONE;
        }
    }

    /** What the text of a mill tells; it stays as told till the next text. */
    private static final class Mill {
        private static final int HOURS_UNTOLD = 6;
        private static final int HEDGE_UNTOLD = 10;
        /** In the order in which like gains are told: rounds of two (NONE behind them) ahead. */
        private static final int[] ROUNDS = {0, 1, NONE, 0, 2, NONE, 1, 2, NONE, 0, 1, 2, 0, 2, 1};
        private static final int ROUND_COUNT = 5;

        int men;
        int kinds;
        int books;
        int rates;
        int hours;
        int draw;
        final int[] crops = new int[MEN];
        final int[] loose = new int[MEN];
        final int[] hedges = new int[MEN];
        final int[] purses = new int[PAIRS];
        final int[] wages = new int[PAIRS];
        final int[] given = new int[KINDS * KINDS];
        final int[] got = new int[KINDS * KINDS];
        final int[] bookTells = new int[BOOKS];
        final Formula formula = new Formula();

        Mill() {
            hours = HOURS_UNTOLD;
        }

        void clear() {
            men = 0;
            kinds = 0;
            books = 0;
            rates = 0;
            hours = HOURS_UNTOLD;
            draw = 0;
            for (int man = 0; man < MEN; man++) {
                put(loose, man, 0);
                put(hedges, man, HEDGE_UNTOLD);
            }
            for (int pair = 0; pair < PAIRS; pair++) {
                put(purses, pair, 0);
                put(wages, pair, 0);
            }
            for (int rate = 0; rate < KINDS * KINDS; rate++) {
                put(given, rate, 0);
                put(got, rate, 0);
            }
            formula.clear();
        }

        void become(Mill other) {
            men = other.men;
            kinds = other.kinds;
            books = other.books;
            rates = other.rates;
            hours = other.hours;
            draw = other.draw;
            copyInts(other.crops, crops);
            copyInts(other.loose, loose);
            copyInts(other.hedges, hedges);
            copyInts(other.purses, purses);
            copyInts(other.wages, wages);
            copyInts(other.given, given);
            copyInts(other.got, got);
            copyInts(other.bookTells, bookTells);
            formula.become(other.formula);
        }

        boolean hasMan(int man) {
            return man >= 0 && man < men;
        }

        boolean hasTwo(int man, int other) {
            return hasMan(man) && hasMan(other) && man != other;
        }

        boolean hasKind(int kind) {
            return kind >= 0 && kind < kinds;
        }

        boolean hasPair(int man, int kind) {
            return hasMan(man) && hasKind(kind);
        }

        /** How many men have a book, of the first. */
        int readers() {
            return Math.min(men, books);
        }

        boolean hasReader(int man) {
            return man >= 0 && man < readers();
        }

        boolean isLoose(int man) {
            return cell(loose, man) != 0;
        }

        int wageOf(int man, int kind) {
            return cell(wages, man * KINDS + kind);
        }

        int wageSum(int man) {
            int sum = 0;
            for (int kind = 0; kind < kinds; kind++) {
                sum += wageOf(man, kind);
            }
            return sum;
        }

        /** How many of n hours that are spent over a plot come over it, or over a neighbour's. */
        int reach(int from, int to, int n) {
            return from == to ? n : n * (10 - cell(hedges, Math.min(from, to))) / 10;
        }

        /** 0 if no rate tells it. */
        int rateGiven(int kind, int other) {
            return cell(given, kind * KINDS + other);
        }

        int rateGot(int kind, int other) {
            return cell(got, kind * KINDS + other);
        }

        int bestRound() {
            int found = NONE;
            for (int round = 0; round < ROUND_COUNT; round++) {
                if (roundGiven(round) != 0 && (found == NONE || isGreater(round, found))) {
                    found = round;
                }
            }
            return found;
        }

        private boolean isGreater(int round, int other) {
            return roundGot(round) * roundGiven(other) > roundGot(other) * roundGiven(round);
        }

        int roundGot(int round) {
            return aroundOf(got, round);
        }

        /** 0 if a rate of the round is not told. */
        int roundGiven(int round) {
            return aroundOf(given, round);
        }

        private static int aroundOf(int[] parts, int round) {
            int a = cell(ROUNDS, round * 3);
            int b = cell(ROUNDS, round * 3 + 1);
            int c = cell(ROUNDS, round * 3 + 2);
            if (c == NONE) {
                return cell(parts, a * KINDS + b) * cell(parts, b * KINDS + a);
            }
            return cell(parts, a * KINDS + b) * cell(parts, b * KINDS + c) * cell(parts, c * KINDS + a);
        }

        int roundKinds(int round) {
            int two = 10 * cell(ROUNDS, round * 3) + cell(ROUNDS, round * 3 + 1);
            int third = cell(ROUNDS, round * 3 + 2);
            return third == NONE ? two : 10 * two + third;
        }
    }

    /** Reads the tape into a draft, so that a faulty text leaves the mill as it is. */
    private static final class MillReader {
        final Mill draft;
        private final Scanner scanner;
        private final FormulaReader formulas;
        private final long[] kindNames = new long[KINDS];
        private final long[] manNames = new long[MEN];
        private final boolean[] purseTold = new boolean[PAIRS];
        private final boolean[] wageTold = new boolean[PAIRS];
        private final boolean[] hedgeTold = new boolean[MEN];
        private boolean growTold;
        private boolean hoursTold;
        private boolean drawTold;

        MillReader(Tape tape) {
            draft = new Mill();
            scanner = new Scanner(tape);
            formulas = new FormulaReader(scanner, draft.formula);
        }

        int faultFound() {
            return scanner.fault;
        }

        int faultPlace() {
            return scanner.faultPlace;
        }

        boolean readMill() {
            draft.clear();
            forgetTold();
            scanner.begin();
            boolean fine = true;
            for (int line = 0; line < TAPE_BYTES && fine && scanner.sort != Scanner.END; line++) {
                fine = readLine();
            }
            return fine;
        }

        private void forgetTold() {
            growTold = false;
            hoursTold = false;
            drawTold = false;
            for (int man = 0; man < hedgeTold.length; man++) {
                hedgeTold[man] = false;
            }
            for (int pair = 0; pair < purseTold.length && pair < wageTold.length; pair++) {
                purseTold[pair] = false;
                wageTold[pair] = false;
            }
        }

        private boolean readLine() {
            if (scanner.says("kind")) {
                return readKind();
            }
            if (scanner.says("man")) {
                return readMan();
            }
            if (scanner.says("purse")) {
                return readHours(draft.purses, purseTold, 60);
            }
            if (scanner.says("pay")) {
                return readHours(draft.wages, wageTold, 9);
            }
            if (scanner.says("hedge")) {
                return readHedge();
            }
            if (scanner.says("rate")) {
                return readRate();
            }
            if (scanner.says("book")) {
                return readBook();
            }
            if (scanner.says("grow")) {
                return readGrow();
            }
            if (scanner.says("hours")) {
                return readHoursOfWeek();
            }
            return scanner.says("draw") ? readDraw() : scanner.refuse(Scanner.CANT_STAND);
        }

        /** The line's first word is the place of what is told too often. */
        private boolean begins(boolean may) {
            if (!may) {
                return scanner.refuse(Scanner.CANT_STAND);
            }
            scanner.step();
            return true;
        }

        private boolean readKind() {
            if (!begins(draft.kinds < KINDS) || !newName(kindNames, draft.kinds)) {
                return false;
            }
            draft.kinds++;
            return scanner.takesSign(';');
        }

        private boolean readMan() {
            int man = draft.men;
            if (!begins(man < MEN) || !newName(manNames, man)) {
                return false;
            }
            if (!scanner.takesWord("crop") || !scanner.takesNumber(0, CROP_MOST)) {
                return false;
            }
            put(draft.crops, man, scanner.taken);
            if (scanner.says("loose")) {
                put(draft.loose, man, 1);
                scanner.step();
            }
            draft.men++;
            return scanner.takesSign(';');
        }

        private boolean readHours(int[] hours, boolean[] told, int high) {
            scanner.step();
            int man = placeOfName(manNames, draft.men);
            if (man == NONE) {
                return false;
            }
            scanner.step();
            int kind = placeOfName(kindNames, draft.kinds);
            if (kind == NONE) {
                return false;
            }
            int pair = man * KINDS + kind;
            if (!tellsOnce(told, pair) || !scanner.takesNumber(0, high)) {
                return false;
            }
            put(hours, pair, scanner.taken);
            return scanner.takesSign(';');
        }

        private boolean readHedge() {
            scanner.step();
            int man = placeOfName(manNames, draft.men);
            if (man == NONE || !tellsOnce(hedgeTold, man) || !scanner.takesNumber(0, 10)) {
                return false;
            }
            put(draft.hedges, man, scanner.taken);
            return scanner.takesSign(';');
        }

        private boolean readRate() {
            scanner.step();
            int kind = placeOfName(kindNames, draft.kinds);
            if (kind == NONE) {
                return false;
            }
            scanner.step();
            if (!scanner.takesNumber(1, 9)) {
                return false;
            }
            int given = scanner.taken;
            if (!scanner.takesWord("for")) {
                return false;
            }
            int other = placeOfName(kindNames, draft.kinds);
            if (other == NONE) {
                return false;
            }
            if (other == kind || draft.rateGiven(kind, other) != 0) {
                return scanner.refuse(Scanner.TOLD_ALREADY);
            }
            scanner.step();
            if (!scanner.takesNumber(1, 9)) {
                return false;
            }
            put(draft.given, kind * KINDS + other, given);
            put(draft.got, kind * KINDS + other, scanner.taken);
            draft.rates++;
            return scanner.takesSign(';');
        }

        private boolean readBook() {
            if (!begins(draft.books < BOOKS) || !scanner.takesNumber(0, 99)) {
                return false;
            }
            put(draft.bookTells, draft.books, scanner.taken);
            draft.books++;
            return scanner.takesSign(';');
        }

        private boolean readGrow() {
            if (!begins(!growTold)) {
                return false;
            }
            growTold = true;
            return formulas.readEither(0) && scanner.takesSign(';');
        }

        private boolean readHoursOfWeek() {
            if (!begins(!hoursTold) || !scanner.takesNumber(1, 8)) {
                return false;
            }
            hoursTold = true;
            draft.hours = scanner.taken;
            return scanner.takesSign(';');
        }

        private boolean readDraw() {
            if (!begins(!drawTold) || !scanner.takesNumber(0, 999)) {
                return false;
            }
            drawTold = true;
            draft.draw = scanner.taken;
            return scanner.takesSign(';');
        }

        private boolean newName(long[] names, int count) {
            if (!scanner.isName()) {
                return scanner.refuse(Scanner.CANT_STAND);
            }
            if (count < 0 || count >= names.length || search(names, count) != NONE) {
                return scanner.refuse(Scanner.TOLD_ALREADY);
            }
            names[count] = scanner.name;
            scanner.step();
            return true;
        }

        /** NONE, and the fault is kept, if there is none. The name stays the present token. */
        private int placeOfName(long[] names, int count) {
            if (!scanner.isName()) {
                scanner.refuse(Scanner.CANT_STAND);
                return NONE;
            }
            int place = search(names, count);
            if (place == NONE) {
                scanner.refuse(Scanner.UNKNOWN_NAME);
            }
            return place;
        }

        private int search(long[] names, int count) {
            for (int i = 0; i < count && i < names.length; i++) {
                if (names[i] == scanner.name) {
                    return i;
                }
            }
            return NONE;
        }

        private boolean tellsOnce(boolean[] told, int i) {
            if (i < 0 || i >= told.length || told[i]) {
                return scanner.refuse(Scanner.TOLD_ALREADY);
            }
            told[i] = true;
            scanner.step();
            return true;
        }
    }

    /** All that acts change, in one row, so that it is kept and taken back as a whole. */
    private static final class State {
        private static final int OVERS = PAIRS;
        private static final int CROPS = 2 * PAIRS;
        private static final int SPENTS = CROPS + MEN;
        private static final int WEEK = SPENTS + MEN;
        private static final int SEED = WEEK + 1;
        static final int CELLS = SEED + 1;

        private final Mill mill;
        private final int[] cells = new int[CELLS];
        private final int[] leaves = new int[Formula.LEAVES];
        private final int[] noRows = new int[PAIRS];

        State(Mill mill) {
            this.mill = mill;
        }

        void begin() {
            for (int i = 0; i < CELLS; i++) {
                put(cells, i, 0);
            }
            for (int pair = 0; pair < PAIRS; pair++) {
                put(cells, pair, cell(mill.purses, pair));
            }
            for (int man = 0; man < mill.men; man++) {
                put(cells, CROPS + man, cell(mill.crops, man));
            }
            put(cells, SEED, mill.draw);
        }

        void become(State other) {
            copyInts(other.cells, cells);
        }

        void saveTo(int[] store, int slot) {
            if (slot >= 0 && slot < store.length / CELLS) {
                System.arraycopy(cells, 0, store, slot * CELLS, CELLS);
            }
        }

        void loadFrom(int[] store, int slot) {
            if (slot >= 0 && slot < store.length / CELLS) {
                System.arraycopy(store, slot * CELLS, cells, 0, CELLS);
            }
        }

        int purseOf(int man, int kind) {
            return cell(cells, man * KINDS + kind);
        }

        int overAt(int plot, int kind) {
            return cell(cells, OVERS + plot * KINDS + kind);
        }

        int cropOf(int man) {
            return cell(cells, CROPS + man);
        }

        int spentBy(int man) {
            return cell(cells, SPENTS + man);
        }

        int leftOf(int man) {
            return mill.hours - spentBy(man);
        }

        int weekNow() {
            return cell(cells, WEEK);
        }

        int seedNow() {
            return cell(cells, SEED);
        }

        int purseSum(int man) {
            int sum = 0;
            for (int kind = 0; kind < mill.kinds; kind++) {
                sum += purseOf(man, kind);
            }
            return sum;
        }

        void addToPurse(int man, int kind, int n) {
            put(cells, man * KINDS + kind, Math.min(purseOf(man, kind) + n, PURSE_MOST));
        }

        void spendHours(int man, int kind, int n) {
            addToPurse(man, kind, -n);
            put(cells, SPENTS + man, spentBy(man) + n);
            for (int plot = man - 1; plot <= man + 1; plot++) {
                if (mill.hasMan(plot)) {
                    int hours = overAt(plot, kind) + mill.reach(man, plot, n);
                    put(cells, OVERS + plot * KINDS + kind, hours);
                }
            }
        }

        int growthOf(int plot) {
            return growthWith(noRows, plot);
        }

        /** GROWTH of a plot if each man spent a row besides. */
        int growthWith(int[] rows, int plot) {
            for (int kind = 0; kind < KINDS; kind++) {
                int hours = overAt(plot, kind);
                for (int man = plot - 1; man <= plot + 1; man++) {
                    int n = cell(rows, man * KINDS + kind);
                    // most rows are empty, and so is that of a man that is none
                    if (n > 0) {
                        hours += mill.reach(man, plot, n);
                    }
                }
                put(leaves, Formula.FIRST + kind, hours);
            }
            put(leaves, Formula.CROP, cropOf(plot));
            put(leaves, Formula.WEEK, weekNow());
            put(leaves, Formula.PLOT, plot);
            int growth = mill.formula.worth(leaves);
            return Math.max(-GROWTH_MOST, Math.min(GROWTH_MOST, growth));
        }

        /** All growths together. */
        int goWeek() {
            spendLoose();
            int sum = 0;
            for (int man = 0; man < mill.men; man++) {
                int growth = growthOf(man);
                int crop = Math.max(0, Math.min(CROP_MOST, cropOf(man) + growth));
                put(cells, CROPS + man, crop);
                sum += growth;
            }
            for (int man = 0; man < mill.men; man++) {
                put(cells, SPENTS + man, 0);
                for (int kind = 0; kind < mill.kinds; kind++) {
                    put(cells, OVERS + man * KINDS + kind, 0);
                    addToPurse(man, kind, mill.wageOf(man, kind));
                }
            }
            put(cells, WEEK, weekNow() + 1);
            return sum;
        }

        private void spendLoose() {
            for (int man = 0; man < mill.men; man++) {
                if (mill.isLoose(man)) {
                    int seed = (seedNow() * 137 + 71) % 1000;
                    put(cells, SEED, seed);
                    int kind = mill.kinds > 0 ? seed % mill.kinds : NONE;
                    if (kind != NONE && purseOf(man, kind) > 0) {
                        spendHours(man, kind, 1);
                    }
                }
            }
        }
    }

    /** The states behind the latest acts, in a ring; the present one is always among them. */
    private static final class Acts {
        private static final int ACTS_MOST = 40;
        private static final int SLOTS = ACTS_MOST + 1;

        private final State now;
        private final int[] store = new int[SLOTS * State.CELLS];
        private int first;
        private int done;
        private int kept;

        Acts(State now) {
            this.now = now;
        }

        void forget() {
            first = 0;
            done = 0;
            kept = 0;
            now.saveTo(store, 0);
        }

        void keep() {
            if (done < ACTS_MOST) {
                done++;
            } else {
                first = (first + 1) % SLOTS;
            }
            kept = done;
            now.saveTo(store, slotOfNow());
        }

        boolean goBack() {
            if (done == 0) {
                return false;
            }
            done--;
            now.loadFrom(store, slotOfNow());
            return true;
        }

        boolean goOn() {
            if (done >= kept) {
                return false;
            }
            done++;
            now.loadFrom(store, slotOfNow());
            return true;
        }

        int undoable() {
            return done;
        }

        int redoable() {
            return kept - done;
        }

        private int slotOfNow() {
            return (first + done) % SLOTS;
        }
    }

    /** Looks for rows, by what is now, and at weeks ahead; it changes nothing of what is now. */
    private static final class Planner {
        private static final int OWN = 0;
        private static final int ALL = 1;
        private static final int ENOUGH = 2;
        /** Rows of three kinds, of 8 hours at most. */
        private static final int ROWS_MOST = 165;
        private static final int POOL_HOURS = 3;
        private static final int ROUNDS_MOST = 20;

        private final Mill mill;
        private final State now;
        private final State ahead;
        /** What each man spends besides, by the latest search. */
        final int[] rows = new int[PAIRS];
        private final int[] bestRows = new int[PAIRS];
        private final int[] roundAhead = new int[PAIRS];
        private final int[] limits = new int[KINDS];
        private final int[] otherLimits = new int[KINDS];
        private boolean found;
        private int bestWorth;
        private int bestHours;

        Planner(Mill mill, State now) {
            this.mill = mill;
            this.now = now;
            ahead = new State(mill);
        }

        int findBest(int man) {
            clearRows();
            return seek(now, man, OWN, 0);
        }

        int findGood(int man) {
            clearRows();
            return seek(now, man, ALL, 0);
        }

        boolean findNeeds(int man, int growth) {
            clearRows();
            return seek(now, man, ENOUGH, growth) == 1;
        }

        int leakOfBest(int man) {
            clearRows();
            int before = growthOfOthers(man);
            seek(now, man, OWN, 0);
            return growthOfOthers(man) - before;
        }

        private int growthOfOthers(int man) {
            return growthOfAll(now) - now.growthWith(rows, man);
        }

        private int growthOfAll(State state) {
            int sum = 0;
            for (int plot = 0; plot < mill.men; plot++) {
                sum += state.growthWith(rows, plot);
            }
            return sum;
        }

        private int growthOfTwo(int man, int other) {
            return now.growthWith(rows, man) + now.growthWith(rows, other);
        }

        int findPool(int man, int other) {
            clearRows();
            found = false;
            int hours = Math.min(POOL_HOURS, now.leftOf(man));
            int otherHours = Math.min(POOL_HOURS, now.leftOf(other));
            for (int kind = 0; kind < KINDS; kind++) {
                put(limits, kind, inBoth(man, other, kind));
            }
            boolean goesOn = true;
            for (int n = 0; n < ROWS_MOST && goesOn; n++) {
                findBeside(man, other, otherHours);
                goesOn = nextRow(man, limits, hours);
            }
            copyInts(bestRows, rows);
            return bestWorth;
        }

        private int inBoth(int man, int other, int kind) {
            return now.purseOf(man, kind) + now.purseOf(other, kind);
        }

        /** All rows of the other man that what the first one's row leaves in both purses allows. */
        private void findBeside(int man, int other, int otherHours) {
            for (int kind = 0; kind < KINDS; kind++) {
                put(otherLimits, kind, inBoth(man, other, kind) - cell(rows, man * KINDS + kind));
            }
            boolean goesOn = true;
            for (int n = 0; n < ROWS_MOST && goesOn; n++) {
                consider(growthOfTwo(man, other), hoursOf(man) + hoursOf(other));
                goesOn = nextRow(other, otherLimits, otherHours);
            }
        }

        int bestInTurn(int man, int other) {
            clearRows();
            seek(now, man, OWN, 0);
            seek(now, other, OWN, 0);
            return growthOfTwo(man, other);
        }

        int roundsToRest() {
            clearRows();
            for (int rounds = 0; rounds <= ROUNDS_MOST; rounds++) {
                copyInts(rows, roundAhead);
                for (int man = 0; man < mill.men; man++) {
                    seek(now, man, OWN, 0);
                }
                if (isAsAhead()) {
                    return rounds;
                }
            }
            return NONE;
        }

        private boolean isAsAhead() {
            for (int pair = 0; pair < PAIRS; pair++) {
                if (cell(rows, pair) != cell(roundAhead, pair)) {
                    return false;
                }
            }
            return true;
        }

        int cropLeftAlone(int man, int weeks) {
            ahead.become(now);
            for (int week = 0; week < weeks; week++) {
                ahead.goWeek();
            }
            return ahead.cropOf(man);
        }

        int cropAtBest(int man, int weeks) {
            ahead.become(now);
            for (int week = 0; week < weeks; week++) {
                clearRows();
                seek(ahead, man, OWN, 0);
                for (int kind = 0; kind < mill.kinds; kind++) {
                    ahead.spendHours(man, kind, cell(rows, man * KINDS + kind));
                }
                ahead.goWeek();
            }
            return ahead.cropOf(man);
        }

        /** Puts the man's best row among the rows, in place of his, and tells what it is worth. */
        private int seek(State state, int man, int aim, int enough) {
            clearRow(man);
            found = false;
            for (int kind = 0; kind < KINDS; kind++) {
                put(limits, kind, state.purseOf(man, kind));
            }
            int hours = state.leftOf(man);
            boolean goesOn = true;
            for (int n = 0; n < ROWS_MOST && goesOn; n++) {
                consider(worthOf(state, man, aim, enough), hoursOf(man));
                goesOn = nextRow(man, limits, hours);
            }
            copyInts(bestRows, rows);
            return bestWorth;
        }

        private int worthOf(State state, int man, int aim, int enough) {
            if (aim == ALL) {
                return growthOfAll(state);
            }
            int growth = state.growthWith(rows, man);
            if (aim == ENOUGH) {
                return growth >= enough ? 1 : 0;
            }
            return growth;
        }

        /** Rows come in their order: of like ones the first stays. */
        private void consider(int worth, int hours) {
            if (!found || worth > bestWorth || worth == bestWorth && hours < bestHours) {
                found = true;
                bestWorth = worth;
                bestHours = hours;
                copyInts(rows, bestRows);
            }
        }

        /** Kind by kind, the fewest first; false, and the row is empty, behind the last one. */
        private boolean nextRow(int man, int[] most, int hours) {
            for (int kind = KINDS - 1; kind >= 0; kind--) {
                int n = cell(rows, man * KINDS + kind);
                if (n < cell(most, kind) && hoursOf(man) < hours) {
                    put(rows, man * KINDS + kind, n + 1);
                    return true;
                }
                put(rows, man * KINDS + kind, 0);
            }
            return false;
        }

        int hoursOf(int man) {
            int sum = 0;
            for (int kind = 0; kind < KINDS; kind++) {
                sum += cell(rows, man * KINDS + kind);
            }
            return sum;
        }

        private void clearRow(int man) {
            for (int kind = 0; kind < KINDS; kind++) {
                put(rows, man * KINDS + kind, 0);
            }
        }

        private void clearRows() {
            for (int pair = 0; pair < PAIRS; pair++) {
                put(rows, pair, 0);
            }
        }
    }

    /** The numbers that lie there. */
    private static final class Shelf {
        private final int[] numbers = new int[2 * KINDS];
        int count;

        void clear() {
            count = 0;
        }

        void lay(int number) {
            if (count >= 0 && count < numbers.length) {
                numbers[count] = number;
                count++;
            }
        }

        void layRow(int[] rows, int man, int kinds) {
            for (int kind = 0; kind < kinds; kind++) {
                lay(cell(rows, man * KINDS + kind));
            }
        }

        int numberAt(int i) {
            return i >= 0 && i < count ? cell(numbers, i) : NONE;
        }
    }

    /** What was seen of the books, and the orders that agree with it. */
    private static final class Sights {
        private static final int SIGHTS_MOST = 30;
        private static final int STEP_MOST = 1000;
        private static final int TIME_MOST = 100000;
        private static final int NOT_THE_SAME = -2;

        private final Mill mill;
        private final int[] men = new int[SIGHTS_MOST];
        /** NONE of a sight that tells a number. */
        private final int[] others = new int[SIGHTS_MOST];
        private final int[] numbers = new int[SIGHTS_MOST];
        private final int[] is = new int[SIGHTS_MOST];
        private final int[] toldAt = new int[SIGHTS_MOST];
        /** NONE of a sight that is not untold. */
        private final int[] untoldAt = new int[SIGHTS_MOST];
        int count;
        int time;
        private final int[] bookOf = new int[MEN];
        private final int[] bookGiven = new int[BOOKS];
        /** In how many orders a man has a book. */
        private final int[] tally = new int[MEN * BOOKS];
        private int orderCount;

        Sights(Mill mill) {
            this.mill = mill;
        }

        /** The time stays. */
        void forget() {
            count = 0;
        }

        int tell(int man, int other, int number, boolean so) {
            if (count >= SIGHTS_MOST) {
                return NONE;
            }
            put(men, count, man);
            put(others, count, other);
            put(numbers, count, number);
            put(is, count, so ? 1 : 0);
            put(toldAt, count, time);
            put(untoldAt, count, NONE);
            count++;
            return count - 1;
        }

        boolean takeBack(int sight) {
            if (sight < 0 || sight >= count || cell(untoldAt, sight) != NONE) {
                return false;
            }
            put(untoldAt, sight, time);
            return true;
        }

        int passTime(int by) {
            if (by < 0 || by > STEP_MOST || time + by > TIME_MOST) {
                return NONE;
            }
            time += by;
            return time;
        }

        int countOrders(int k) {
            orderCount = 0;
            for (int i = 0; i < tally.length; i++) {
                tally[i] = 0;
            }
            for (int book = 0; book < bookGiven.length; book++) {
                bookGiven[book] = 0;
            }
            giveBooks(0, k);
            return orderCount;
        }

        /** Gives books to the men from this one on, in all ways. */
        private void giveBooks(int man, int k) {
            if (man >= mill.readers() || man >= MEN) {
                tallyOrder(k);
                return;
            }
            for (int book = 0; book < mill.readers(); book++) {
                if (cell(bookGiven, book) == 0) {
                    put(bookGiven, book, 1);
                    put(bookOf, man, book);
                    giveBooks(man + 1, k);
                    put(bookGiven, book, 0);
                }
            }
        }

        private void tallyOrder(int k) {
            for (int sight = 0; sight < count; sight++) {
                if (isKnown(sight, k) && !agrees(sight)) {
                    return;
                }
            }
            orderCount++;
            for (int man = 0; man < mill.readers(); man++) {
                int place = man * BOOKS + cell(bookOf, man);
                put(tally, place, cell(tally, place) + 1);
            }
        }

        private boolean isKnown(int sight, int k) {
            int untold = cell(untoldAt, sight);
            return cell(toldAt, sight) <= k && (untold == NONE || untold > k);
        }

        private boolean agrees(int sight) {
            int tells = tellsOf(cell(men, sight));
            int other = cell(others, sight);
            boolean so = other == NONE ? tells >= cell(numbers, sight) : tells > tellsOf(other);
            return so == (cell(is, sight) != 0);
        }

        private int tellsOf(int man) {
            return cell(mill.bookTells, cell(bookOf, man));
        }

        int sureBook(int man, int k) {
            if (countOrders(k) == 0) {
                return NONE;
            }
            for (int book = 0; book < mill.readers(); book++) {
                if (cell(tally, man * BOOKS + book) == orderCount) {
                    return book;
                }
            }
            return NOT_THE_SAME;
        }

        int manToAsk(int k) {
            if (countOrders(k) == 0) {
                return NONE;
            }
            int found = NONE;
            for (int man = 0; man < mill.readers(); man++) {
                if (found == NONE || mostLeft(man) < mostLeft(found)) {
                    found = man;
                }
            }
            return found;
        }

        /** By the orders that were counted last. */
        int mostLeft(int man) {
            int left = 0;
            for (int book = 0; book < mill.readers(); book++) {
                left = Math.max(left, cell(tally, man * BOOKS + book));
            }
            return left;
        }
    }
}
