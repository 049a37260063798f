import java.lang.reflect.Constructor;
import java.lang.reflect.Field;
import java.lang.reflect.Method;
import java.lang.reflect.Modifier;
import java.util.ArrayList;
import java.util.Arrays;
import java.util.HashSet;
import java.util.List;
import java.util.Map;
import java.util.Set;
import java.util.TreeSet;
import javax.lang.model.element.ExecutableElement;

/** The face of the class, and what of ../shared/LANGUAGE.md can be read off its text. */
public final class LanguageTest {
    private static final String FACE = "feed(int,int,int,int,int)int end(int)int mill()int fault(int)int "
        + "man(int,int)int purse(int,int)int over(int,int)int pay(int,int)int all(int,int)int left(int)int "
        + "spend(int,int,int)int give(int,int,int,int)int change(int,int,int)int week()int undo()boolean "
        + "redo()boolean best(int,int)int leaks(int)int good(int,int)int needs(int,int)int pool(int,int)int "
        + "joint(int,int)int rest()int will(int,int)int thrive(int,int)int saves(int,int,int)int richest()int "
        + "gulf()int most(int)int gain(int)int lies(int)int least(int,int,boolean)int more(int,int,boolean)int "
        + "untell(int)boolean later(int)int orders(int)int sure(int,int)int ask(int,int)int image(int)int "
        + "back(int)int about(int)int";
    /** The page says "some" of these: a little more is no fault. */
    private static final int CLASSES = 14;
    private static final int FIELDS = 22;
    private static final int CALLS_DEEP = 8;

    public static void main(String[] args) throws Exception {
        face();
        Source source = Source.read();
        RuleScanner rules = new RuleScanner(source);
        rules.scanAll();
        for (String fault : rules.faults) {
            Due.holds(fault, false);
        }
        Due.holds("methods read: " + rules.calls.size(), rules.calls.size() >= FACE.split(" ").length);
        namesOfTheFace(rules.calls.keySet());
        recursion(rules.calls);
        depth(rules.calls);
        classes();
        Due.end();
    }

    private static String name(Method method) {
        StringBuilder name = new StringBuilder(method.getName()).append("(");
        for (Class<?> type : method.getParameterTypes()) {
            name.append(name.charAt(name.length() - 1) == '(' ? "" : ",").append(type.getName());
        }
        return name.append(")").append(method.getReturnType().getName()).toString();
    }

    private static void face() {
        Set<String> due = new TreeSet<>(Arrays.asList(FACE.split(" ")));
        Set<String> open = new TreeSet<>();
        for (Method method : WeatherWages.class.getDeclaredMethods()) {
            if (!Modifier.isPrivate(method.getModifiers()) && !method.isSynthetic()) {
                open.add(name(method));
                boolean plain = Modifier.isPublic(method.getModifiers()) && !Modifier.isStatic(method.getModifiers());
                Due.holds(method + " is public, of the object", plain);
            }
        }
        Due.holds("the methods " + open + " are the face", open.equals(due));
        int constructors = 0;
        for (Constructor<?> constructor : WeatherWages.class.getDeclaredConstructors()) {
            if (!Modifier.isPrivate(constructor.getModifiers())) {
                constructors++;
                boolean plain = Modifier.isPublic(constructor.getModifiers()) && constructor.getParameterCount() == 0;
                Due.holds("the constructor is public, without arguments", plain);
            }
        }
        Due.is("constructors", constructors, 1);
        List<String> fields = new ArrayList<>();
        for (Field field : WeatherWages.class.getDeclaredFields()) {
            if (!Modifier.isPrivate(field.getModifiers()) && !field.isSynthetic()) {
                fields.add(Modifier.toString(field.getModifiers()) + " " + field.getType() + " " + field.getName());
            }
        }
        Due.holds("open fields " + fields, fields.equals(List.of("public static final int NONE")));
        int modifiers = WeatherWages.class.getModifiers();
        Due.holds("public final class", Modifier.isPublic(modifiers) && Modifier.isFinal(modifiers));
    }

    private static boolean isPrivate(ExecutableElement method) {
        return method.getModifiers().contains(javax.lang.model.element.Modifier.PRIVATE);
    }

    private static void namesOfTheFace(Set<ExecutableElement> methods) {
        Set<String> face = new TreeSet<>();
        for (String method : FACE.split(" ")) {
            face.add(method.substring(0, method.indexOf('(')));
        }
        for (ExecutableElement method : methods) {
            boolean bears = isPrivate(method) && face.contains(method.getSimpleName().toString());
            Due.holds("rule 1: " + method + " bears no name of the face", !bears);
        }
    }

    private static Set<ExecutableElement> reached(Map<ExecutableElement, Set<ExecutableElement>> calls,
        ExecutableElement from) {
        Set<ExecutableElement> reached = new HashSet<>();
        List<ExecutableElement> open = new ArrayList<>(calls.get(from));
        while (!open.isEmpty()) {
            ExecutableElement next = open.remove(open.size() - 1);
            if (reached.add(next)) {
                open.addAll(calls.getOrDefault(next, Set.of()));
            }
        }
        return reached;
    }

    private static boolean isRecursive(Map<ExecutableElement, Set<ExecutableElement>> calls, ExecutableElement method) {
        return reached(calls, method).contains(method);
    }

    private static void recursion(Map<ExecutableElement, Set<ExecutableElement>> calls) {
        for (ExecutableElement method : calls.keySet()) {
            if (isRecursive(calls, method)) {
                boolean part = !method.getEnclosingElement().getKind().isClass() || isPrivate(method)
                    || method.getAnnotation(Override.class) != null;
                Due.holds("rule 8: " + method + " calls itself and is private", part);
                Due.holds("rule 8: " + method + " calls itself and has an argument", !method.getParameters().isEmpty());
            }
        }
    }

    /** Those that call themselves are passed through without a step. */
    private static void depth(Map<ExecutableElement, Set<ExecutableElement>> calls) {
        for (ExecutableElement method : calls.keySet()) {
            int deep = deepest(calls, method, new HashSet<>());
            Due.holds("rule 11: calls of " + method + " go " + deep + " deep", deep <= CALLS_DEEP);
        }
    }

    private static int deepest(Map<ExecutableElement, Set<ExecutableElement>> calls, ExecutableElement from,
        Set<ExecutableElement> open) {
        if (!open.add(from)) {
            return 0;
        }
        int deep = 0;
        for (ExecutableElement next : calls.getOrDefault(from, Set.of())) {
            deep = Math.max(deep, deepest(calls, next, open));
        }
        open.remove(from);
        return deep + (isRecursive(calls, from) ? 0 : 1);
    }

    private static void classes() {
        List<Class<?>> all = new ArrayList<>(List.of(WeatherWages.class));
        all.addAll(Arrays.asList(WeatherWages.class.getDeclaredClasses()));
        Due.holds("rule 11: " + all.size() + " classes", all.size() <= CLASSES);
        for (Class<?> one : all) {
            int own = 0;
            for (Field field : one.getDeclaredFields()) {
                own += Modifier.isStatic(field.getModifiers()) ? 0 : 1;
            }
            Due.holds("rule 11: " + one + " has " + own + " fields", own <= FIELDS);
            boolean inside = one != WeatherWages.class;
            Due.holds("rule 2: " + one + " is static inside", !inside || Modifier.isStatic(one.getModifiers()));
            boolean open = Modifier.isPublic(one.getModifiers()) || Modifier.isProtected(one.getModifiers());
            Due.holds("rule 1: " + one + " can't be seen from outside", !inside || !open);
        }
    }
}
