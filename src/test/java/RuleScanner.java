import com.sun.source.tree.*;
import com.sun.source.util.TreePath;
import com.sun.source.util.TreePathScanner;
import com.sun.source.util.TreeScanner;
import java.util.ArrayList;
import java.util.HashSet;
import java.util.LinkedHashMap;
import java.util.List;
import java.util.Map;
import java.util.Set;
import javax.lang.model.element.Element;
import javax.lang.model.element.ElementKind;
import javax.lang.model.element.ExecutableElement;
import javax.lang.model.element.Modifier;
import javax.lang.model.element.TypeElement;
import javax.lang.model.element.VariableElement;
import javax.lang.model.type.ArrayType;
import javax.lang.model.type.DeclaredType;
import javax.lang.model.type.TypeKind;
import javax.lang.model.type.TypeMirror;

/** Goes through the class and keeps, by the rule's number, what a rule of LANGUAGE.md forbids. */
final class RuleScanner extends TreePathScanner<Void, Void> {
    /** "Some sixty lines": a little more is no fault. */
    private static final int LINES = 66;
    private static final int PARAMETERS = 7;
    private static final Set<String> TYPES = Set.of("java.lang.String", "java.lang.StringBuilder", "java.lang.Integer",
        "java.util.ArrayList", "java.util.List", "java.util.Iterator", "java.lang.Iterable", "java.lang.Comparable");
    private static final Set<String> LIST = Set.of("add", "get", "set", "remove", "size", "isEmpty", "clear", "of", "<init>");
    private static final Map<String, Set<String>> LIBRARY = Map.of(
        "java.lang.String", Set.of("length", "charAt", "isEmpty", "equals", "indexOf", "substring", "toCharArray", "<init>"),
        "java.lang.StringBuilder", Set.of("append", "charAt", "setCharAt", "setLength", "deleteCharAt", "reverse", "length",
            "toString", "<init>"),
        "java.lang.AbstractStringBuilder", Set.of("charAt", "setLength", "length"),
        "java.util.ArrayList", LIST,
        "java.util.List", LIST,
        "java.lang.System", Set.of("arraycopy"),
        "java.util.Arrays", Set.of("copyOf", "copyOfRange", "fill"),
        "java.lang.Object", Set.of("clone", "<init>"),
        "java.lang.Enum", Set.of("<init>"),
        "java.lang.Record", Set.of("<init>"));
    private static final Set<String> NUMBERS = Set.of("java.lang.Integer", "java.lang.Long", "java.lang.Math");

    private final Source source;
    final List<String> faults = new ArrayList<>();
    /** Whom each method of the class calls. */
    final Map<ExecutableElement, Set<ExecutableElement>> calls = new LinkedHashMap<>();
    private ExecutableElement within;

    RuleScanner(Source source) {
        this.source = source;
    }

    void scanAll() {
        scan(source.unit, null);
    }

    private void fault(int rule, Tree at, String words) {
        faults.add("rule " + rule + ", line " + source.lineOf(at) + ": " + words);
    }

    private TypeMirror typeOf(Tree tree) {
        return source.trees.getTypeMirror(new TreePath(getCurrentPath(), tree));
    }

    private static boolean isOwn(Element element) {
        Element top = element;
        while (top.getEnclosingElement() != null && top.getEnclosingElement().getKind() != ElementKind.PACKAGE) {
            top = top.getEnclosingElement();
        }
        return top.getSimpleName().contentEquals("WeatherWages");
    }

    private static boolean isText(TypeMirror type) {
        return type != null && type.toString().equals("java.lang.String");
    }

    @Override
    public Void visitCompilationUnit(CompilationUnitTree unit, Void none) {
        if (unit.getPackageName() != null) {
            fault(1, unit, "a package line");
        }
        if (unit.getTypeDecls().size() != 1) {
            fault(1, unit, unit.getTypeDecls().size() + " classes that are not inside");
        }
        return super.visitCompilationUnit(unit, none);
    }

    // ---- rules 1, 2 and 5: classes and their members

    @Override
    public Void visitClass(ClassTree tree, Void none) {
        Element element = source.trees.getElement(getCurrentPath());
        boolean top = getCurrentPath().getParentPath().getLeaf() instanceof CompilationUnitTree;
        boolean inside = getCurrentPath().getParentPath().getLeaf() instanceof ClassTree;
        if (!top && !inside) {
            fault(2, tree, "a local or anonymous class");
        } else if (inside && !element.getModifiers().contains(Modifier.STATIC)) {
            fault(2, tree, "a class inside that is not static");
        }
        for (Tree member : tree.getMembers()) {
            if (member instanceof BlockTree && ((BlockTree) member).isStatic()) {
                fault(5, member, "a static initialiser block");
            }
        }
        return super.visitClass(tree, none);
    }

    @Override
    public Void visitVariable(VariableTree tree, Void none) {
        VariableElement element = (VariableElement) source.trees.getElement(getCurrentPath());
        if (element.getKind() == ElementKind.FIELD && element.getModifiers().contains(Modifier.STATIC)) {
            staticField(tree, element);
        }
        if (element.getKind() != ElementKind.ENUM_CONSTANT && !isAllowed(element.asType())) {
            fault(3, tree, "a variable of " + element.asType());
        }
        return super.visitVariable(tree, none);
    }

    private void staticField(VariableTree tree, VariableElement element) {
        if (!element.getModifiers().contains(Modifier.FINAL)) {
            fault(5, tree, element + " is static and not final");
        }
        TypeMirror type = element.asType();
        boolean numbers = type.getKind() == TypeKind.ARRAY
            && Set.of("int", "long", "char", "byte").contains(((ArrayType) type).getComponentType().toString());
        boolean writtenOut = tree.getInitializer() instanceof NewArrayTree
            && ((NewArrayTree) tree.getInitializer()).getInitializers() != null;
        boolean values = String.valueOf(tree.getInitializer()).endsWith("values()");
        if (element.getConstantValue() == null && !(numbers && writtenOut) && !values) {
            fault(5, tree, element + " is static and no constant");
        }
    }

    // ---- rule 3: types

    private boolean isAllowed(TypeMirror type) {
        if (type.getKind().isPrimitive() || type.getKind() == TypeKind.VOID || type.getKind() == TypeKind.TYPEVAR) {
            return true;
        }
        if (type.getKind() == TypeKind.ARRAY) {
            return isAllowedInArray(((ArrayType) type).getComponentType());
        }
        if (type.getKind() != TypeKind.DECLARED) {
            return false;
        }
        TypeElement element = (TypeElement) ((DeclaredType) type).asElement();
        for (TypeMirror argument : ((DeclaredType) type).getTypeArguments()) {
            boolean list = argument.toString().equals("java.lang.Integer") || argument.getKind() == TypeKind.TYPEVAR;
            if (!list && !isOwn(((DeclaredType) argument).asElement())) {
                return false;
            }
        }
        return isOwn(element) || TYPES.contains(element.getQualifiedName().toString());
    }

    private static boolean isAllowedInArray(TypeMirror part) {
        if (part.getKind() == TypeKind.ARRAY) {
            return ((ArrayType) part).getComponentType().getKind().isPrimitive();
        }
        return part.getKind().isPrimitive() || part.getKind() == TypeKind.DECLARED && isOwn(((DeclaredType) part).asElement());
    }

    // ---- rules 4, 12 and 13: what is called

    @Override
    public Void visitMethodInvocation(MethodInvocationTree tree, Void none) {
        called(tree, source.trees.getElement(getCurrentPath()));
        return super.visitMethodInvocation(tree, none);
    }

    @Override
    public Void visitNewClass(NewClassTree tree, Void none) {
        called(tree, source.trees.getElement(getCurrentPath()));
        return super.visitNewClass(tree, none);
    }

    private void called(Tree tree, Element element) {
        if (!(element instanceof ExecutableElement)) {
            fault(4, tree, "a call of nobody");
            return;
        }
        ExecutableElement method = (ExecutableElement) element;
        String name = method.getSimpleName().toString();
        String owner = method.getEnclosingElement().toString();
        if (isOwn(method)) {
            if (within != null) {
                calls.get(within).add(method);
            }
            overridden(tree, method);
        } else if (NUMBERS.contains(owner)) {
            if (!isOfNumbers(method) || name.endsWith("Exact")) {
                fault(4, tree, "a call of " + owner + "." + method);
            }
        } else if (!LIBRARY.getOrDefault(owner, Set.of()).contains(name)) {
            fault(4, tree, "a call of " + owner + "." + method);
        }
    }

    private static boolean isOfNumbers(ExecutableElement method) {
        for (VariableElement parameter : method.getParameters()) {
            if (!Set.of("int", "long").contains(parameter.asType().toString())) {
                return false;
            }
        }
        return method.getModifiers().contains(Modifier.STATIC);
    }

    private void overridden(Tree tree, ExecutableElement method) {
        boolean making = within != null && within.getKind() == ElementKind.CONSTRUCTOR;
        if (!making || method.getKind() == ElementKind.CONSTRUCTOR) {
            return;
        }
        Set<Modifier> own = method.getModifiers();
        boolean fixed = own.contains(Modifier.PRIVATE) || own.contains(Modifier.STATIC) || own.contains(Modifier.FINAL)
            || method.getEnclosingElement().getModifiers().contains(Modifier.FINAL);
        if (!fixed && method.getEnclosingElement().equals(within.getEnclosingElement())) {
            fault(12, tree, "a constructor calls " + method);
        }
    }

    @Override
    public Void visitIdentifier(IdentifierTree tree, Void none) {
        Tree parent = getCurrentPath().getParentPath().getLeaf();
        boolean making = within != null && within.getKind() == ElementKind.CONSTRUCTOR;
        boolean selects = parent instanceof MemberSelectTree
            || parent instanceof MethodInvocationTree && ((MethodInvocationTree) parent).getMethodSelect() == tree;
        if (making && tree.getName().contentEquals("this") && !selects) {
            fault(12, tree, "a constructor hands out its object");
        }
        return super.visitIdentifier(tree, none);
    }

    // ---- rules 2 and 6: what is not to be written

    @Override
    public Void visitLambdaExpression(LambdaExpressionTree tree, Void none) {
        fault(2, tree, "a lambda");
        return super.visitLambdaExpression(tree, none);
    }

    @Override
    public Void visitMemberReference(MemberReferenceTree tree, Void none) {
        fault(2, tree, "a method reference");
        return super.visitMemberReference(tree, none);
    }

    @Override
    public Void visitThrow(ThrowTree tree, Void none) {
        fault(6, tree, "throw");
        return super.visitThrow(tree, none);
    }

    @Override
    public Void visitTry(TryTree tree, Void none) {
        fault(6, tree, "try");
        return super.visitTry(tree, none);
    }

    @Override
    public Void visitSynchronized(SynchronizedTree tree, Void none) {
        fault(6, tree, "synchronized");
        return super.visitSynchronized(tree, none);
    }

    @Override
    public Void visitAssert(AssertTree tree, Void none) {
        fault(6, tree, "assert");
        return super.visitAssert(tree, none);
    }

    @Override
    public Void visitBinary(BinaryTree tree, Void none) {
        TypeMirror left = typeOf(tree.getLeftOperand());
        TypeMirror right = typeOf(tree.getRightOperand());
        boolean same = tree.getKind() == Tree.Kind.EQUAL_TO || tree.getKind() == Tree.Kind.NOT_EQUAL_TO;
        boolean numbers = left != null && left.toString().equals("java.lang.Integer") && left.equals(right);
        if (same && (isText(left) && isText(right) || numbers)) {
            fault(6, tree, "== between texts or Integers");
        }
        if (tree.getKind() == Tree.Kind.PLUS && (isText(left) || isText(right))) {
            fault(10, tree, "texts joined by +");
        }
        return super.visitBinary(tree, none);
    }

    @Override
    public Void visitCompoundAssignment(CompoundAssignmentTree tree, Void none) {
        if (isText(typeOf(tree.getVariable()))) {
            fault(10, tree, "texts joined by +=");
        }
        return super.visitCompoundAssignment(tree, none);
    }

    @Override
    public Void visitLiteral(LiteralTree tree, Void none) {
        Object value = tree.getValue();
        if (value instanceof String || value instanceof Character) {
            if (!value.toString().chars().allMatch(c -> c >= 1 && c <= 127)) {
                fault(4, tree, "a sign that is not 1 to 127");
            }
        }
        return super.visitLiteral(tree, none);
    }

    // ---- rule 9: loops

    @Override
    public Void visitForLoop(ForLoopTree tree, Void none) {
        loop(tree, tree.getCondition(), tree.getStatement());
        return super.visitForLoop(tree, none);
    }

    @Override
    public Void visitWhileLoop(WhileLoopTree tree, Void none) {
        loop(tree, tree.getCondition(), tree.getStatement());
        return super.visitWhileLoop(tree, none);
    }

    @Override
    public Void visitDoWhileLoop(DoWhileLoopTree tree, Void none) {
        loop(tree, tree.getCondition(), tree.getStatement());
        return super.visitDoWhileLoop(tree, none);
    }

    private void loop(Tree tree, ExpressionTree condition, StatementTree body) {
        boolean[] ends = {false};
        TreeScanner<Void, Void> scanner = new TreeScanner<>() {
            @Override
            public Void visitBinary(BinaryTree compared, Void none) {
                boolean equal = compared.getKind() == Tree.Kind.EQUAL_TO;
                boolean logical = compared.getKind() == Tree.Kind.CONDITIONAL_AND
                    || compared.getKind() == Tree.Kind.CONDITIONAL_OR;
                ends[0] |= !equal && !logical;
                return super.visitBinary(compared, none);
            }

            @Override
            public Void visitMethodInvocation(MethodInvocationTree asked, Void none) {
                ends[0] = true;
                return super.visitMethodInvocation(asked, none);
            }

            @Override
            public Void visitBreak(BreakTree out, Void none) {
                ends[0] = true;
                return null;
            }

            @Override
            public Void visitReturn(ReturnTree out, Void none) {
                ends[0] = true;
                return null;
            }
        };
        scanner.scan(condition, null);
        boolean endless = condition == null || condition.toString().contains("true");
        if (endless) {
            scanner.scan(body, null);
        }
        if (!ends[0]) {
            fault(9, tree, "a loop without an end that can be seen");
        }
    }

    // ---- rule 11: methods

    @Override
    public Void visitMethod(MethodTree tree, Void none) {
        ExecutableElement method = (ExecutableElement) source.trees.getElement(getCurrentPath());
        ExecutableElement outer = within;
        within = method;
        calls.put(method, new HashSet<>());
        long lines = source.linesOf(tree);
        if (lines > LINES) {
            fault(11, tree, method + " has " + lines + " lines");
        }
        if (method.getParameters().size() > PARAMETERS) {
            fault(11, tree, method + " has " + method.getParameters().size() + " parameters");
        }
        if (!isAllowed(method.getReturnType())) {
            fault(3, tree, method + " answers " + method.getReturnType());
        }
        if (!method.getThrownTypes().isEmpty() || method.getModifiers().contains(Modifier.NATIVE)
            || method.getModifiers().contains(Modifier.SYNCHRONIZED)) {
            fault(6, tree, method + " throws, is native or synchronized");
        }
        super.visitMethod(tree, none);
        within = outer;
        return null;
    }
}
