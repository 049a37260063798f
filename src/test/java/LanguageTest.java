import java.io.IOException;
import java.lang.reflect.Constructor;
import java.lang.reflect.Field;
import java.lang.reflect.Method;
import java.lang.reflect.Modifier;
import java.nio.file.Files;
import java.nio.file.Path;
import java.util.ArrayList;
import java.util.Arrays;
import java.util.List;
import java.util.Set;
import java.util.TreeSet;
import java.util.regex.Matcher;
import java.util.regex.Pattern;

/** The face of the class, and what of ../shared/LANGUAGE.md can be read off its text. */
public final class LanguageTest {
    private static final Path SOURCE = Path.of("src/main/java/WeatherWages.java");
    private static final String FACE = "feed(int,int,int,int,int)int end(int)int mill()int fault(int)int "
        + "man(int,int)int purse(int,int)int over(int,int)int pay(int,int)int all(int,int)int left(int)int "
        + "spend(int,int,int)int give(int,int,int,int)int change(int,int,int)int week()int undo()boolean "
        + "redo()boolean best(int,int)int leaks(int)int good(int,int)int needs(int,int)int pool(int,int)int "
        + "joint(int,int)int rest()int will(int,int)int thrive(int,int)int saves(int,int,int)int richest()int "
        + "gulf()int most(int)int gain(int)int lies(int)int least(int,int,boolean)int more(int,int,boolean)int "
        + "untell(int)boolean later(int)int orders(int)int sure(int,int)int ask(int,int)int image(int)int "
        + "back(int)int about(int)int";
    private static final List<String> FORBIDDEN = List.of("throw", "throws", "try", "catch", "finally",
        "synchronized", "assert", "package", "Object", "Random", "Thread", "System.out", "System.err",
        "System.current", "System.nano", "System.getenv", "System.getProperty", "System.exit", "hashCode",
        "addExact", "multiplyExact", "toIntExact", "volatile", "transient", "native", "protected", "String.format",
        "HashMap", "HashSet", "TreeMap", "Optional", "::", "static {");
    private static final Set<String> IMPORTS = Set.of("java.util.ArrayList", "java.util.Arrays", "java.util.Iterator",
        "java.util.List");

    public static void main(String[] args) throws IOException {
        face();
        String text = Files.readString(SOURCE);
        String code = withoutTexts(text);
        words(code);
        loops(code);
        methods(text);
        classes();
        Due.end();
    }

    private static String name(Method method) {
        StringBuilder name = new StringBuilder(method.getName()).append("(");
        for (Class<?> type : method.getParameterTypes()) {
            name.append(name.charAt(name.length() - 1) == '(' ? "" : ",").append(type.getName());
        }
        return name.append(")").append(method.getReturnType().getName()).toString();
    }

    private static void face() {
        Set<String> due = new TreeSet<>(Arrays.asList(FACE.split(" ")));
        Set<String> open = new TreeSet<>();
        for (Method method : WeatherWages.class.getDeclaredMethods()) {
            if (!Modifier.isPrivate(method.getModifiers()) && !method.isSynthetic()) {
                open.add(name(method));
            }
        }
        Due.holds("the methods " + open + " are the face", open.equals(due));
        Due.is("constructors", WeatherWages.class.getDeclaredConstructors().length, 1);
        for (Constructor<?> constructor : WeatherWages.class.getDeclaredConstructors()) {
            boolean plain = Modifier.isPublic(constructor.getModifiers()) && constructor.getParameterCount() == 0;
            Due.holds("the constructor is public, without arguments", plain);
        }
        List<String> fields = new ArrayList<>();
        for (Field field : WeatherWages.class.getDeclaredFields()) {
            if (!Modifier.isPrivate(field.getModifiers())) {
                fields.add(Modifier.toString(field.getModifiers()) + " " + field.getType() + " " + field.getName());
            }
        }
        Due.holds("open fields " + fields, fields.equals(List.of("public static final int NONE")));
        int modifiers = WeatherWages.class.getModifiers();
        Due.holds("public final class", Modifier.isPublic(modifiers) && Modifier.isFinal(modifiers));
    }

    private static String withoutTexts(String text) {
        String code = text.replaceAll("(?s)/\\*.*?\\*/", " ").replaceAll("//[^\n]*", " ");
        return code.replaceAll("\"[^\"\n]*\"", "\"\"").replaceAll("'[^'\n]'", "' '");
    }

    private static void words(String code) {
        for (String word : FORBIDDEN) {
            boolean letters = Character.isLetter(word.charAt(0));
            Pattern pattern = Pattern.compile(letters ? "\\b" + Pattern.quote(word) + "\\b" : Pattern.quote(word));
            Due.holds("no " + word, !pattern.matcher(code).find());
        }
        Due.holds("all signs are below 128", code.chars().allMatch(c -> c < 128));
        Due.holds("texts are not joined by +", !Pattern.compile("\"\\s*\\+|\\+\\s*\"").matcher(code).find());
        Matcher imported = Pattern.compile("\\bimport\\s+([^;]*);").matcher(code);
        while (imported.find()) {
            Due.holds("import of " + imported.group(1), IMPORTS.contains(imported.group(1)));
        }
    }

    /** Each loop has a bound in its head, or goes over an array, a list or a chain of objects. */
    private static void loops(String code) {
        Matcher loop = Pattern.compile("\\b(for|while) *\\((.*)\\)").matcher(code);
        int count = 0;
        while (loop.find()) {
            count++;
            Due.holds("a bound in " + loop.group(), loop.group(2).matches(".*([<>]=?| : |!= null).*"));
        }
        Due.is("loops found", count, Pattern.compile("\\b(for|while)\\b").matcher(code).results().count());
    }

    private static void methods(String text) {
        Matcher head = Pattern.compile("(?m)^( +)[a-zA-Z][\\w<>\\[\\] ]* (\\w+)\\(([^)]*)\\) \\{$").matcher(text);
        Set<String> face = new TreeSet<>();
        for (String method : FACE.split(" ")) {
            face.add(method.substring(0, method.indexOf('(')));
        }
        int count = 0;
        while (head.find()) {
            String indent = head.group(1);
            int end = text.indexOf("\n" + indent + "}\n", head.end());
            long lines = text.substring(head.start(), end).chars().filter(c -> c == '\n').count() + 1;
            count++;
            Due.holds(head.group(2) + " has " + lines + " lines", lines <= 60);
            Due.holds(head.group(2) + " has seven parameters at most", head.group(3).split(",").length <= 7);
            boolean open = head.group().trim().startsWith("public ");
            Due.holds(head.group(2) + " bears no name of the face", open || !face.contains(head.group(2)));
        }
        Due.holds("methods found: " + count, count >= face.size());
    }

    private static void classes() {
        List<Class<?>> all = new ArrayList<>(List.of(WeatherWages.class));
        all.addAll(Arrays.asList(WeatherWages.class.getDeclaredClasses()));
        Due.holds(all.size() + " classes", all.size() <= 12);
        for (Class<?> one : all) {
            int own = 0;
            for (Method method : one.getDeclaredMethods()) {
                Due.holds(method + " is no lambda", !method.getName().startsWith("lambda$"));
            }
            for (Field field : one.getDeclaredFields()) {
                int modifiers = field.getModifiers();
                own += Modifier.isStatic(modifiers) ? 0 : 1;
                Due.holds(field + " is final if static", !Modifier.isStatic(modifiers) || Modifier.isFinal(modifiers));
            }
            Due.holds(one + " has " + own + " fields", own <= 20);
            Due.holds(one + " is static inside", one == WeatherWages.class || Modifier.isStatic(one.getModifiers()));
            Due.holds(one + " is no local class", !one.isAnonymousClass() && !one.isLocalClass());
            Due.is(one + " has classes inside", one == WeatherWages.class ? 0 : one.getDeclaredClasses().length, 0);
        }
    }
}
