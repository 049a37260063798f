import java.util.ArrayList;
import java.util.Arrays;
import java.util.Comparator;
import java.util.HashMap;
import java.util.HashSet;
import java.util.LinkedHashMap;
import java.util.List;
import java.util.Map;
import java.util.Set;

/**
 * The document written down a second time, with the whole Java library and no thought of room
 * or speed, so that random runs of the class have something to be held against.
 */
final class PlainMill {
    private static final int NONE = -1;
    private static final int NOWHERE = -1000000;
    private static final Set<String> RESERVED = Set.of("kind", "man", "crop", "loose", "purse", "pay",
        "hedge", "rate", "for", "book", "grow", "hours", "draw", "or", "and", "not", "first", "second",
        "third", "week", "plot");

    /** What a text tells. */
    private static final class Told {
        final List<String> kinds = new ArrayList<>();
        final Map<String, Integer> men = new LinkedHashMap<>();
        final Set<String> loose = new HashSet<>();
        final Map<String, Integer> purses = new HashMap<>();
        final Map<String, Integer> pays = new HashMap<>();
        final Map<String, Integer> hedges = new HashMap<>();
        final Map<String, int[]> rates = new HashMap<>();
        final List<Integer> books = new ArrayList<>();
        Formula grow;
        Integer hours;
        Integer draw;
        int units;

        List<String> names() {
            return new ArrayList<>(men.keySet());
        }
    }

    private interface Formula {
        int by(Map<String, Integer> values);
    }

    private static final class Fault extends RuntimeException {
        private static final long serialVersionUID = 1L;
        final int what;
        final int place;

        Fault(int what, int place) {
            this.what = what;
            this.place = place;
        }
    }

    // ---- the text

    private static final class Text {
        final String text;
        final Told told = new Told();
        int at = 0;
        int depth = 0;

        Text(String text) {
            this.text = text;
        }

        void blanks() {
            while (at < text.length() && (text.charAt(at) == ' ' || text.charAt(at) == '\n')) {
                at++;
            }
        }

        /** The token at the present place, "" at the end; it stays there. */
        String token() {
            blanks();
            if (at == text.length()) {
                return "";
            }
            String rest = text.substring(at);
            String run = rest.replaceAll("(?s)^([a-z]+|[0-9]+|.).*$", "$1");
            boolean bad;
            if (run.matches("[a-z]+")) {
                bad = run.length() > 8;
            } else if (run.matches("[0-9]+")) {
                bad = run.length() > 4 || rest.substring(run.length()).matches("(?s)[a-z].*");
            } else {
                bad = ";()<>=+-*/%".indexOf(run.charAt(0)) < 0;
            }
            if (bad) {
                throw new Fault(1, at);
            }
            return run;
        }

        int place() {
            blanks();
            return at;
        }

        String take() {
            String token = token();
            at += token.length();
            return token;
        }

        boolean ahead(String... tokens) {
            return Arrays.asList(tokens).contains(token());
        }

        Fault here(int what) {
            return new Fault(what, place());
        }

        void expect(String token) {
            if (!token().equals(token)) {
                throw here(2);
            }
            take();
        }

        int number(int low, int high) {
            if (!token().matches("[0-9]+")) {
                throw here(2);
            }
            int n = Integer.parseInt(token());
            if (n < low || n > high) {
                throw here(4);
            }
            take();
            return n;
        }

        String name() {
            if (!token().matches("[a-z]+") || RESERVED.contains(token())) {
                throw here(2);
            }
            return token();
        }

        String toldName(java.util.Collection<String> of) {
            String name = name();
            if (!of.contains(name)) {
                throw here(5);
            }
            return name;
        }

        Told read() {
            while (!token().isEmpty()) {
                line();
                expect(";");
            }
            return told;
        }

        void limit(boolean may) {
            if (!may) {
                throw here(2);
            }
            take();
        }

        void line() {
            switch (token()) {
                case "kind" -> {
                    limit(told.kinds.size() < 3);
                    if (told.kinds.contains(name())) {
                        throw here(3);
                    }
                    told.kinds.add(take());
                }
                case "man" -> man();
                case "purse" -> pair(told.purses, 60);
                case "pay" -> pair(told.pays, 9);
                case "hedge" -> {
                    take();
                    String man = toldName(told.men.keySet());
                    if (told.hedges.containsKey(man)) {
                        throw here(3);
                    }
                    take();
                    told.hedges.put(man, number(0, 10));
                }
                case "rate" -> rate();
                case "book" -> {
                    limit(told.books.size() < 5);
                    told.books.add(number(0, 99));
                }
                case "grow" -> {
                    limit(told.grow == null);
                    told.grow = either();
                }
                case "hours" -> {
                    limit(told.hours == null);
                    told.hours = number(1, 8);
                }
                case "draw" -> {
                    limit(told.draw == null);
                    told.draw = number(0, 999);
                }
                default -> throw here(2);
            }
        }

        void man() {
            limit(told.men.size() < 5);
            if (told.men.containsKey(name())) {
                throw here(3);
            }
            String man = take();
            expect("crop");
            told.men.put(man, number(0, 99));
            if (ahead("loose")) {
                take();
                told.loose.add(man);
            }
        }

        void pair(Map<String, Integer> hours, int high) {
            take();
            String man = toldName(told.men.keySet());
            take();
            String pair = man + " " + toldName(told.kinds);
            if (hours.containsKey(pair)) {
                throw here(3);
            }
            take();
            hours.put(pair, number(0, high));
        }

        void rate() {
            take();
            String kind = toldName(told.kinds);
            take();
            int given = number(1, 9);
            expect("for");
            String other = toldName(told.kinds);
            if (other.equals(kind) || told.rates.containsKey(kind + " " + other)) {
                throw here(3);
            }
            take();
            told.rates.put(kind + " " + other, new int[] {given, number(1, 9)});
        }

        Formula either() {
            Formula a = both();
            while (ahead("or")) {
                take();
                Formula l = a;
                Formula r = both();
                a = v -> truth(l.by(v) != 0 | r.by(v) != 0);
            }
            return a;
        }

        Formula both() {
            Formula a = one();
            while (ahead("and")) {
                take();
                Formula l = a;
                Formula r = one();
                a = v -> truth(l.by(v) != 0 & r.by(v) != 0);
            }
            return a;
        }

        void deeper() {
            if (depth == 7) {
                throw here(2);
            }
            depth++;
            take();
        }

        Formula one() {
            if (ahead("not")) {
                deeper();
                Formula a = one();
                depth--;
                return v -> truth(a.by(v) == 0);
            }
            Formula a = sum();
            if (ahead("<", ">", "=")) {
                String sign = take();
                Formula b = sum();
                return v -> {
                    int c = Integer.compare(a.by(v), b.by(v));
                    return truth(sign.equals("<") ? c < 0 : sign.equals(">") ? c > 0 : c == 0);
                };
            }
            return a;
        }

        Formula sum() {
            Formula a = term();
            while (ahead("+", "-")) {
                int side = take().equals("+") ? 1 : -1;
                Formula l = a;
                Formula r = term();
                a = v -> l.by(v) + side * r.by(v);
            }
            return a;
        }

        Formula term() {
            Formula a = unit();
            while (ahead("*", "/", "%")) {
                String sign = take();
                Formula l = a;
                Formula r = unit();
                a = v -> times(sign, l.by(v), r.by(v));
            }
            return a;
        }

        static int times(String sign, int a, int b) {
            if (sign.equals("*")) {
                return a * b;
            }
            if (b == 0) {
                return 0;
            }
            return (int) (sign.equals("/") ? (long) a / b : (long) a % b);
        }

        Formula unit() {
            if (told.units == 30 && !token().isEmpty()) {
                throw here(2);
            }
            if (ahead("(")) {
                deeper();
                told.units++;
                Formula a = either();
                expect(")");
                depth--;
                return a;
            }
            if (ahead("first", "second", "third", "crop", "week", "plot")) {
                told.units++;
                String leaf = take();
                return v -> v.get(leaf);
            }
            int n = number(0, 9999);
            told.units++;
            return v -> n;
        }

        static int truth(boolean so) {
            return so ? 1 : 0;
        }
    }

    // ---- what acts change

    private final class Now {
        int[][] purse = new int[5][3];
        int[][] over = new int[5][3];
        int[] crop = new int[5];
        int[] spent = new int[5];
        int week;
        int seed;

        Now copy() {
            Now c = new Now();
            for (int i = 0; i < 5; i++) {
                c.purse[i] = purse[i].clone();
                c.over[i] = over[i].clone();
            }
            c.crop = crop.clone();
            c.spent = spent.clone();
            c.week = week;
            c.seed = seed;
            return c;
        }

        void spend(int man, int kind, int n) {
            purse[man][kind] -= n;
            spent[man] += n;
            over[man][kind] += n;
            if (man > 0) {
                over[man - 1][kind] += n * (10 - hedge(man - 1)) / 10;
            }
            if (man + 1 < men()) {
                over[man + 1][kind] += n * (10 - hedge(man)) / 10;
            }
        }

        Now with(int man, int[] row) {
            Now c = copy();
            for (int k = 0; k < kinds(); k++) {
                c.spend(man, k, row[k]);
            }
            return c;
        }

        int growth(int man) {
            int together = over[man][0] + over[man][1] + over[man][2];
            int raw = told.grow == null ? together : told.grow.by(Map.of("first", over[man][0],
                "second", over[man][1], "third", over[man][2], "crop", crop[man], "week", week, "plot", man));
            return raw < -20 ? -20 : raw > 20 ? 20 : raw;
        }

        int growths() {
            int sum = 0;
            for (int man = 0; man < men(); man++) {
                sum += growth(man);
            }
            return sum;
        }

        int goWeek() {
            for (int man = 0; man < men(); man++) {
                if (told.loose.contains(told.names().get(man))) {
                    seed = (137 * seed + 71) % 1000;
                    if (kinds() > 0 && purse[man][seed % kinds()] > 0) {
                        spend(man, seed % kinds(), 1);
                    }
                }
            }
            int[] growth = new int[5];
            int sum = 0;
            for (int man = 0; man < men(); man++) {
                growth[man] = growth(man);
                sum += growth[man];
            }
            over = new int[5][3];
            spent = new int[5];
            for (int man = 0; man < men(); man++) {
                crop[man] = Math.min(99, Math.max(0, crop[man] + growth[man]));
                for (int k = 0; k < kinds(); k++) {
                    purse[man][k] = Math.min(99, purse[man][k] + wage(man, k));
                }
            }
            week++;
            return sum;
        }

        int left(int man) {
            return hours() - spent[man];
        }

        int together(int man) {
            return Arrays.stream(purse[man]).sum();
        }
    }

    private record Sight(int man, int other, int number, boolean is, int told, int[] untold) {
    }

    private final StringBuilder tape = new StringBuilder();
    private Told told = new Told();
    private Now now = new Now();
    private List<Now> done = new ArrayList<>();
    private List<Now> undone = new ArrayList<>();
    private Now[] boxes = new Now[3];
    private List<Integer> lying = new ArrayList<>();
    private List<Sight> sights = new ArrayList<>();
    private int time = 0;
    private int fault = 0;
    private int faultPlace = NONE;

    private int men() {
        return told.men.size();
    }

    private int kinds() {
        return told.kinds.size();
    }

    private int hours() {
        return told.hours == null ? 6 : told.hours;
    }

    private int hedge(int man) {
        return told.hedges.getOrDefault(told.names().get(man), 10);
    }

    private int wage(int man, int kind) {
        return told.pays.getOrDefault(told.names().get(man) + " " + told.kinds.get(kind), 0);
    }

    private boolean isMan(int man) {
        return 0 <= man && man < men();
    }

    private boolean isKind(int kind) {
        return 0 <= kind && kind < kinds();
    }

    // ---- the calls

    int feed(int a, int b, int c, int d, int e) {
        if (tape.length() + 20 > 1600) {
            return NONE;
        }
        for (int n : new int[] {a, b, c, d, e}) {
            tape.append((char) (n >>> 24)).append((char) (n >>> 16 & 255));
            tape.append((char) (n >>> 8 & 255)).append((char) (n & 255));
        }
        return tape.length();
    }

    int end(int n) {
        if (n < 0 || n > tape.length()) {
            return NONE;
        }
        tape.setLength(n);
        return n;
    }

    int mill() {
        String text = tape.toString();
        tape.setLength(0);
        try {
            told = new Text(text).read();
        } catch (Fault f) {
            fault = f.what;
            faultPlace = f.place;
            return NONE;
        }
        fault = 0;
        faultPlace = NONE;
        now = new Now();
        List<String> names = told.names();
        for (int man = 0; man < men(); man++) {
            now.crop[man] = told.men.get(names.get(man));
            for (int k = 0; k < kinds(); k++) {
                now.purse[man][k] = told.purses.getOrDefault(names.get(man) + " " + told.kinds.get(k), 0);
            }
        }
        now.seed = told.draw == null ? 0 : told.draw;
        done.clear();
        undone.clear();
        sights.clear();
        lying.clear();
        boxes = new Now[3];
        return men();
    }

    int fault(int what) {
        return what == 0 ? fault : what == 1 ? faultPlace : NONE;
    }

    int man(int man, int what) {
        if (!isMan(man)) {
            return NOWHERE;
        }
        return switch (what) {
            case 0 -> now.crop[man];
            case 1 -> now.spent[man];
            case 2 -> now.growth(man);
            case 3 -> now.together(man);
            case 4 -> {
                int sum = 0;
                for (int k = 0; k < kinds(); k++) {
                    sum += wage(man, k);
                }
                yield sum;
            }
            case 5 -> hedge(man);
            case 6 -> told.loose.contains(told.names().get(man)) ? 1 : 0;
            default -> NOWHERE;
        };
    }

    int purse(int man, int kind) {
        return isMan(man) && isKind(kind) ? now.purse[man][kind] : NONE;
    }

    int over(int man, int kind) {
        return isMan(man) && isKind(kind) ? now.over[man][kind] : NONE;
    }

    int pay(int man, int kind) {
        return isMan(man) && isKind(kind) ? wage(man, kind) : NONE;
    }

    int all(int kind, int what) {
        if (!isKind(kind) || what != 0 && what != 1) {
            return NONE;
        }
        int sum = 0;
        for (int man = 0; man < men(); man++) {
            sum += (what == 0 ? now.purse : now.over)[man][kind];
        }
        return sum;
    }

    int left(int man) {
        return isMan(man) ? now.left(man) : NONE;
    }

    private void act(Now next) {
        done.add(now);
        if (done.size() > 40) {
            done.remove(0);
        }
        undone.clear();
        now = next;
    }

    int spend(int man, int kind, int n) {
        if (!isMan(man) || !isKind(kind) || n < 1 || n > 8 || now.purse[man][kind] < n || now.left(man) < n) {
            return NONE;
        }
        Now next = now.copy();
        next.spend(man, kind, n);
        act(next);
        return now.over[man][kind];
    }

    int give(int man, int other, int kind, int n) {
        if (!isMan(man) || !isMan(other) || man == other || !isKind(kind) || n < 1 || n > 99
            || now.purse[man][kind] < n) {
            return NONE;
        }
        Now next = now.copy();
        next.purse[man][kind] -= n;
        next.purse[other][kind] = Math.min(99, next.purse[other][kind] + n);
        act(next);
        return now.purse[other][kind];
    }

    int change(int man, int kind, int other) {
        if (!isMan(man) || !isKind(kind) || !isKind(other)) {
            return NONE;
        }
        int[] rate = told.rates.get(told.kinds.get(kind) + " " + told.kinds.get(other));
        if (rate == null || now.purse[man][kind] < rate[0]) {
            return NONE;
        }
        Now next = now.copy();
        next.purse[man][kind] -= rate[0];
        next.purse[man][other] = Math.min(99, next.purse[man][other] + rate[1]);
        act(next);
        return now.purse[man][other];
    }

    int week() {
        if (now.week >= 999) {
            return NOWHERE;
        }
        Now next = now.copy();
        int sum = next.goWeek();
        act(next);
        return sum;
    }

    boolean undo() {
        if (done.isEmpty()) {
            return false;
        }
        undone.add(now);
        now = done.remove(done.size() - 1);
        return true;
    }

    boolean redo() {
        if (undone.isEmpty()) {
            return false;
        }
        done.add(now);
        now = undone.remove(undone.size() - 1);
        return true;
    }

    // ---- rows

    private List<int[]> rows(int[] purse, int hours) {
        List<int[]> rows = new ArrayList<>();
        for (int a = 0; a <= Math.min(purse[0], hours); a++) {
            for (int b = 0; b <= Math.min(purse[1], hours - a); b++) {
                for (int c = 0; c <= Math.min(purse[2], hours - a - b); c++) {
                    rows.add(new int[] {a, b, c});
                }
            }
        }
        return rows;
    }

    private interface Worth {
        int of(Now then);
    }

    /** The row that makes a worth greatest; of like ones by hours, then by the row itself. */
    private int[] seek(Now by, int man, Worth worth) {
        Comparator<int[]> order = Comparator.comparingInt(row -> -worth.of(by.with(man, row)));
        order = order.thenComparingInt(row -> row[0] + row[1] + row[2]);
        order = order.thenComparing(Arrays::compare);
        return rows(by.purse[man], by.left(man)).stream().min(order).get();
    }

    private int[] bestRow(Now by, int man) {
        return seek(by, man, then -> then.growth(man));
    }

    private void lay(int[]... rows) {
        for (int[] row : rows) {
            for (int k = 0; k < kinds(); k++) {
                lying.add(row[k]);
            }
        }
    }

    int best(int man, int what) {
        lying.clear();
        if (!isMan(man) || what != 0 && what != 1) {
            return NOWHERE;
        }
        int[] row = bestRow(now, man);
        lay(row);
        return what == 0 ? now.with(man, row).growth(man) : Arrays.stream(row).sum();
    }

    int leaks(int man) {
        if (!isMan(man)) {
            return NOWHERE;
        }
        Now then = now.with(man, bestRow(now, man));
        return then.growths() - then.growth(man) - (now.growths() - now.growth(man));
    }

    int good(int man, int what) {
        lying.clear();
        if (!isMan(man) || what != 0 && what != 1) {
            return NOWHERE;
        }
        int[] row = seek(now, man, Now::growths);
        lay(row);
        return what == 0 ? now.with(man, row).growths() : Arrays.stream(row).sum();
    }

    int needs(int man, int growth) {
        lying.clear();
        if (!isMan(man) || growth < -20 || growth > 20) {
            return NONE;
        }
        List<int[]> rows = rows(now.purse[man], now.left(man));
        rows.removeIf(row -> now.with(man, row).growth(man) < growth);
        if (rows.isEmpty()) {
            return NONE;
        }
        rows.sort(Comparator.comparingInt(row -> Arrays.stream(row).sum()));
        lay(rows.get(0));
        return Arrays.stream(rows.get(0)).sum();
    }

    /** Both rows of the pool, and what comes of it. */
    private int[][] poolOf(int man, int other) {
        int[] purse = new int[3];
        for (int k = 0; k < 3; k++) {
            purse[k] = now.purse[man][k] + now.purse[other][k];
        }
        int[][] found = null;
        for (int[] one : rows(purse, Math.min(3, now.left(man)))) {
            for (int[] two : rows(purse, Math.min(3, now.left(other)))) {
                boolean there = true;
                for (int k = 0; k < 3; k++) {
                    there &= one[k] + two[k] <= purse[k];
                }
                Now then = now.with(man, one).with(other, two);
                int[] sums = {then.growth(man) + then.growth(other), -Arrays.stream(one).sum() - Arrays.stream(two).sum()};
                if (there && (found == null || Arrays.compare(sums, found[2]) > 0)) {
                    found = new int[][] {one, two, sums};
                }
            }
        }
        return found;
    }

    int pool(int man, int other) {
        lying.clear();
        if (!isMan(man) || !isMan(other) || man == other) {
            return NOWHERE;
        }
        int[][] pool = poolOf(man, other);
        lay(pool[0], pool[1]);
        return pool[2][0];
    }

    int joint(int man, int other) {
        if (!isMan(man) || !isMan(other) || man == other) {
            return NOWHERE;
        }
        Now one = now.with(man, bestRow(now, man));
        Now two = one.with(other, bestRow(one, other));
        return poolOf(man, other)[2][0] - two.growth(man) - two.growth(other);
    }

    int rest() {
        lying.clear();
        int[][] rows = new int[men()][3];
        List<String> seen = new ArrayList<>();
        seen.add(Arrays.deepToString(rows));
        for (int round = 1; round <= 21; round++) {
            for (int man = 0; man < men(); man++) {
                Now others = now;
                for (int other = 0; other < men(); other++) {
                    others = other == man ? others : others.with(other, rows[other]);
                }
                rows[man] = bestRow(others, man);
            }
            seen.add(Arrays.deepToString(rows));
            if (seen.get(round).equals(seen.get(round - 1))) {
                for (int[] row : rows) {
                    lying.add(row[0] + row[1] + row[2]);
                }
                return round - 1;
            }
        }
        return NONE;
    }

    int will(int man, int n) {
        if (!isMan(man) || n < 0 || n > 30) {
            return NONE;
        }
        Now then = now.copy();
        for (int i = 0; i < n; i++) {
            then.goWeek();
        }
        return then.crop[man];
    }

    int thrive(int man, int n) {
        if (!isMan(man) || n < 0 || n > 12) {
            return NONE;
        }
        Now then = now.copy();
        for (int i = 0; i < n; i++) {
            then = then.with(man, bestRow(then, man));
            then.goWeek();
        }
        return then.crop[man];
    }

    int saves(int man, int kind, int hours) {
        if (!isMan(man) || !isKind(kind) || hours < 0 || hours > 99) {
            return NONE;
        }
        int has = now.purse[man][kind];
        for (int weeks = 0; weeks <= 60; weeks++) {
            if (has >= hours) {
                return weeks;
            }
            has = Math.min(99, has + wage(man, kind));
        }
        return NONE;
    }

    int richest() {
        int sum = gulfTop();
        for (int man = 0; man < men(); man++) {
            if (now.together(man) == sum) {
                return man;
            }
        }
        return NONE;
    }

    private int gulfTop() {
        int top = NONE;
        for (int man = 0; man < men(); man++) {
            top = Math.max(top, now.together(man));
        }
        return top;
    }

    int gulf() {
        int low = Integer.MAX_VALUE;
        for (int man = 0; man < men(); man++) {
            low = Math.min(low, now.together(man));
        }
        return men() == 0 ? NONE : gulfTop() - low;
    }

    int most(int man) {
        if (!isMan(man) || kinds() == 0) {
            return NONE;
        }
        int first = 0;
        for (int k = 1; k < kinds(); k++) {
            first = now.purse[man][k] > now.purse[man][first] ? k : first;
        }
        return first;
    }

    int gain(int what) {
        int[][] rounds = {{0, 1}, {0, 2}, {1, 2}, {0, 1, 2}, {0, 2, 1}};
        int[] found = null;
        for (int[] round : rounds) {
            int upper = 1;
            int lower = 1;
            int code = 0;
            for (int i = 0; i < round.length; i++) {
                int to = round[(i + 1) % round.length];
                boolean there = isKind(round[i]) && isKind(to);
                int[] rate = there ? told.rates.get(told.kinds.get(round[i]) + " " + told.kinds.get(to)) : null;
                lower *= rate == null ? 0 : rate[0];
                upper *= rate == null ? 0 : rate[1];
                code = code * 10 + round[i];
            }
            int by = java.math.BigInteger.valueOf(upper).gcd(java.math.BigInteger.valueOf(lower)).intValue();
            if (lower > 0 && (found == null || (double) upper / lower > (double) found[0] / found[1] + 1e-9)) {
                found = new int[] {upper / by, lower / by, code};
            }
        }
        return found == null || what < 0 || what > 2 ? NONE : found[what];
    }

    int lies(int i) {
        return i >= 0 && i < lying.size() ? lying.get(i) : NONE;
    }

    // ---- sights

    private int n() {
        return Math.min(men(), told.books.size());
    }

    private boolean isReader(int man) {
        return man >= 0 && man < n();
    }

    private int tell(Sight sight) {
        if (sights.size() == 30) {
            return NONE;
        }
        sights.add(sight);
        return sights.size() - 1;
    }

    int least(int man, int number, boolean is) {
        boolean can = isReader(man) && number >= 0 && number <= 99;
        return can ? tell(new Sight(man, NONE, number, is, time, new int[1])) : NONE;
    }

    int more(int man, int other, boolean is) {
        boolean can = isReader(man) && isReader(other) && man != other;
        return can ? tell(new Sight(man, other, NONE, is, time, new int[1])) : NONE;
    }

    boolean untell(int sight) {
        if (sight < 0 || sight >= sights.size() || sights.get(sight).untold()[0] != 0) {
            return false;
        }
        sights.get(sight).untold()[0] = time + 1;
        return true;
    }

    int later(int by) {
        if (by < 0 || by > 1000 || time + by > 100000) {
            return NONE;
        }
        time += by;
        return time;
    }

    private List<List<Integer>> ways(List<Integer> begun) {
        List<List<Integer>> ways = new ArrayList<>();
        if (begun.size() == n()) {
            ways.add(begun);
            return ways;
        }
        for (int book = 0; book < n(); book++) {
            if (!begun.contains(book)) {
                List<Integer> next = new ArrayList<>(begun);
                next.add(book);
                ways.addAll(ways(next));
            }
        }
        return ways;
    }

    private List<List<Integer>> ordersAt(int k) {
        List<List<Integer>> ways = ways(new ArrayList<>());
        for (Sight sight : sights) {
            boolean untold = sight.untold()[0] != 0 && sight.untold()[0] - 1 <= k;
            if (sight.told() <= k && !untold) {
                ways.removeIf(way -> isSo(sight, way) != sight.is());
            }
        }
        return ways;
    }

    private boolean isSo(Sight sight, List<Integer> way) {
        int tells = told.books.get(way.get(sight.man()));
        if (sight.other() == NONE) {
            return tells >= sight.number();
        }
        return tells > told.books.get(way.get(sight.other()));
    }

    int orders(int k) {
        return ordersAt(k).size();
    }

    int sure(int man, int k) {
        if (!isReader(man) || orders(k) == 0) {
            return NONE;
        }
        Set<Integer> books = new HashSet<>();
        ordersAt(k).forEach(way -> books.add(way.get(man)));
        return books.size() == 1 ? books.iterator().next() : -2;
    }

    int ask(int what, int k) {
        List<List<Integer>> ways = ordersAt(k);
        if (what != 0 && what != 1 || ways.isEmpty() || n() == 0) {
            return NONE;
        }
        int found = NONE;
        int fewest = Integer.MAX_VALUE;
        for (int man = 0; man < n(); man++) {
            int at = man;
            int top = 0;
            for (int book = 0; book < n(); book++) {
                int seen = book;
                top = Math.max(top, (int) ways.stream().filter(way -> way.get(at) == seen).count());
            }
            if (top < fewest) {
                fewest = top;
                found = man;
            }
        }
        return what == 0 ? found : fewest;
    }

    int image(int box) {
        if (box < 0 || box > 2) {
            return NONE;
        }
        boxes[box] = now.copy();
        return now.week;
    }

    int back(int box) {
        if (box < 0 || box > 2 || boxes[box] == null) {
            return NONE;
        }
        now = boxes[box].copy();
        done.clear();
        undone.clear();
        return now.week;
    }

    int about(int what) {
        return switch (what) {
            case 0 -> men();
            case 1 -> kinds();
            case 2 -> told.books.size();
            case 3 -> told.rates.size();
            case 4 -> now.week;
            case 5 -> now.seed;
            case 6 -> hours();
            case 7 -> done.size();
            case 8 -> undone.size();
            case 9 -> sights.size();
            case 10 -> time;
            case 11 -> tape.length();
            case 12 -> told.units;
            case 13 -> lying.size();
            default -> NONE;
        };
    }
}
