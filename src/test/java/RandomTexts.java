import java.util.ArrayList;
import java.util.List;
import java.util.Random;

/** Makes texts of mills, most of them without a fault, and spoils some. */
final class RandomTexts {
    private static final String[] NAMES = {"a", "sun", "rain", "ann", "bob", "line", "e", "abcdefgh"};
    private static final String[] PIECES = {"kind", "man", "crop", "loose", "purse", "pay", "hedge", "rate",
        "for", "book", "grow", "hours", "draw", "or", "and", "not", "first", "second", "third", "week",
        "plot", "0", "7", "99", "100", "1000", "12345", "3x", "abcdefghi", ";", "(", ")", "<", ">", "=",
        "+", "-", "*", "/", "%", "sun", "ann", "$", "A", "\t", "\r", "\n", " ", ""};

    /** Of these it matters what neighbours do. */
    private static final String[] GROWS = {
        "4 * first - first * first + second",
        "10 - ( first + second - 4 ) * ( first + second - 4 )",
        "first = 2 and second < 3 or 5 * ( third > 1 )",
        "first * ( second + 1 ) - third * third",
        "( first + second ) % 3 * 4 + third / 2 - plot",
        "( first - 3 ) * ( 3 - first ) + ( second > first ) * 7 - week",
        "not ( first > 1 ) * 9 + crop % 3 * second - 5 * ( plot % 2 ) * first",
        "( plot % 2 * 2 - 1 ) * ( first % 2 ) * 5 + second * ( third < 2 )",
        "( first % 3 = plot % 2 ) * 6 + ( second % 2 = week % 2 ) * 3",
    };

    private final Random random;

    RandomTexts(Random random) {
        this.random = random;
    }

    String text() {
        String text = spaced(tokens());
        return random.nextInt(3) == 0 ? spoilt(text) : text;
    }

    private int upTo(int most) {
        return random.nextInt(most + 1);
    }

    private String oneOf(String... words) {
        return words[random.nextInt(words.length)];
    }

    private List<String> tokens() {
        List<List<String>> lines = new ArrayList<>();
        List<String> kinds = names(oneOf("3", "3", "2", "1", "0"));
        List<String> men = names(oneOf("5", "4", "3", "3", "2", "1", "0"));
        for (String kind : kinds) {
            lines.add(List.of("kind", kind, ";"));
        }
        for (String man : men) {
            String crop = "" + oneOf("0", "5", "98", "" + upTo(99));
            boolean loose = random.nextInt(3) == 0;
            lines.add(loose ? List.of("man", man, "crop", crop, "loose", ";") : List.of("man", man, "crop", crop, ";"));
        }
        tellHours(lines, kinds, men);
        for (String a : kinds) {
            for (String b : kinds) {
                if (!a.equals(b) && random.nextInt(3) > 0) {
                    lines.add(List.of("rate", a, "" + (1 + upTo(8)), "for", b, "" + (1 + upTo(8)), ";"));
                }
            }
        }
        for (int books = upTo(5); books > 0; books--) {
            lines.add(List.of("book", "" + oneOf("0", "5", "9", "99", "" + upTo(99)), ";"));
        }
        tellOnce(lines);
        return shuffled(lines, kinds.size() + men.size());
    }

    private List<String> names(String count) {
        List<String> names = new ArrayList<>();
        while (names.size() < Integer.parseInt(count)) {
            String name = oneOf(NAMES);
            if (!names.contains(name)) {
                names.add(name);
            }
        }
        return names;
    }

    private void tellHours(List<List<String>> lines, List<String> kinds, List<String> men) {
        for (String man : men) {
            for (String kind : kinds) {
                if (random.nextInt(4) > 0) {
                    lines.add(List.of("purse", man, kind, oneOf("0", "1", "2", "3", "60", "" + upTo(60)), ";"));
                }
                if (random.nextInt(2) > 0) {
                    lines.add(List.of("pay", man, kind, "" + upTo(9), ";"));
                }
            }
            if (random.nextInt(4) > 0) {
                lines.add(List.of("hedge", man, oneOf("0", "5", "9", "" + upTo(10)), ";"));
            }
        }
    }

    private void tellOnce(List<List<String>> lines) {
        if (random.nextInt(5) > 0) {
            List<String> grow = new ArrayList<>(List.of("grow"));
            if (random.nextInt(2) == 0) {
                grow.addAll(List.of(oneOf(GROWS).split(" ")));
            } else {
                either(grow, upTo(random.nextInt(10) == 0 ? 7 : 1));
            }
            grow.add(";");
            lines.add(grow);
        }
        if (random.nextInt(3) > 0) {
            lines.add(List.of("hours", "" + (1 + upTo(oneOf("7", "3").charAt(0) - '0')), ";"));
        }
        if (random.nextInt(3) > 0) {
            lines.add(List.of("draw", "" + upTo(999), ";"));
        }
    }

    /** Names stay ahead of what is told of them: only the lines behind them change places. */
    private List<String> shuffled(List<List<String>> lines, int names) {
        for (int i = lines.size() - 1; i > names; i--) {
            int j = names + random.nextInt(i - names + 1);
            List<String> line = lines.get(i);
            lines.set(i, lines.get(j));
            lines.set(j, line);
        }
        List<String> tokens = new ArrayList<>();
        lines.forEach(tokens::addAll);
        return tokens;
    }

    private void either(List<String> to, int size) {
        both(to, size);
        while (random.nextInt(6) == 0) {
            to.add("or");
            both(to, size);
        }
    }

    private void both(List<String> to, int size) {
        one(to, size);
        while (random.nextInt(6) == 0) {
            to.add("and");
            one(to, size);
        }
    }

    private void one(List<String> to, int size) {
        while (random.nextInt(8) == 0) {
            to.add("not");
        }
        sum(to, size);
        if (random.nextInt(5) == 0) {
            to.add(oneOf("<", ">", "="));
            sum(to, size);
        }
    }

    private void sum(List<String> to, int size) {
        term(to, size);
        while (random.nextInt(2) == 0) {
            to.add(oneOf("+", "-"));
            term(to, size);
        }
    }

    private void term(List<String> to, int size) {
        unit(to, size);
        while (random.nextInt(3) == 0) {
            to.add(oneOf("*", "*", "/", "%"));
            unit(to, size);
        }
    }

    private void unit(List<String> to, int size) {
        if (size > 0 && random.nextInt(4) == 0) {
            to.add("(");
            either(to, size - 1);
            to.add(")");
            return;
        }
        to.add(oneOf("first", "first", "first", "second", "second", "third", "third", "crop", "week", "plot",
            "" + upTo(9), "" + upTo(9), "" + upTo(30), "" + upTo(9999)));
    }

    private String spaced(List<String> tokens) {
        StringBuilder text = new StringBuilder();
        for (String token : tokens) {
            int end = text.length() - 1;
            boolean parted = end < 0 || !Character.isLetterOrDigit(text.charAt(end))
                || !Character.isLetterOrDigit(token.charAt(0));
            text.append(!parted ? " " : oneOf("", "", "", "", " ", "\n", "  ")).append(token);
        }
        text.append(oneOf("", "", "", " ", "\n"));
        return text.toString();
    }

    private String spoilt(String text) {
        StringBuilder spoilt = new StringBuilder(text);
        for (int times = 1 + upTo(1); times > 0; times--) {
            int at = random.nextInt(spoilt.length() + 1);
            switch (random.nextInt(6)) {
                case 0 -> spoilt.setLength(at);
                case 1 -> spoilt.insert(at, oneOf(PIECES));
                case 2 -> spoilt.insert(at, " " + oneOf(PIECES) + " ");
                case 3 -> spoilt.replace(at, Math.min(spoilt.length(), at + 1 + upTo(3)), oneOf(PIECES));
                case 4 -> spoilt.insert(lineAt(spoilt, at), line(spoilt, random.nextInt(spoilt.length() + 1)));
                default -> spoilt.append((char) random.nextInt(256));
            }
        }
        return spoilt.toString();
    }

    private static int lineAt(StringBuilder text, int at) {
        return text.lastIndexOf(";", Math.max(0, at - 1)) + 1;
    }

    private static String line(StringBuilder text, int at) {
        int from = lineAt(text, at);
        int to = text.indexOf(";", from);
        return text.substring(from, to < 0 ? text.length() : to + 1);
    }
}
