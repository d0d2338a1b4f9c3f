import com.sun.source.tree.ArrayAccessTree;
import com.sun.source.tree.BlockTree;
import com.sun.source.tree.ClassTree;
import com.sun.source.tree.ExpressionTree;
import com.sun.source.tree.ForLoopTree;
import com.sun.source.tree.IdentifierTree;
import com.sun.source.tree.MemberSelectTree;
import com.sun.source.tree.MethodInvocationTree;
import com.sun.source.tree.MethodTree;
import com.sun.source.tree.NewArrayTree;
import com.sun.source.tree.NewClassTree;
import com.sun.source.tree.Tree;
import com.sun.source.tree.VariableTree;
import com.sun.source.util.TreePath;
import java.io.IOException;
import java.util.ArrayDeque;
import java.util.Deque;
import java.util.EnumSet;
import java.util.Map;
import java.util.Set;
import java.util.TreeSet;
import java.util.regex.Pattern;
import javax.lang.model.element.Element;
import javax.lang.model.element.ElementKind;
import javax.lang.model.element.Modifier;

/**
 * What the compiler's tree of the program shows of LANGUAGE.md, rule by rule. The program uses less than the rules
 * leave, and what is listed here is what it uses: who needs more looks the rule up and lists it.
 */
public final class LanguageTest {
    private static final Set<Tree.Kind> KINDS = EnumSet.of(
        Tree.Kind.COMPILATION_UNIT, Tree.Kind.CLASS, Tree.Kind.MODIFIERS, Tree.Kind.METHOD, Tree.Kind.VARIABLE, Tree.Kind.BLOCK,
        Tree.Kind.EXPRESSION_STATEMENT, Tree.Kind.IF, Tree.Kind.FOR_LOOP, Tree.Kind.RETURN,
        Tree.Kind.PRIMITIVE_TYPE, Tree.Kind.ARRAY_TYPE, Tree.Kind.IDENTIFIER, Tree.Kind.MEMBER_SELECT, Tree.Kind.METHOD_INVOCATION,
        Tree.Kind.NEW_CLASS, Tree.Kind.NEW_ARRAY, Tree.Kind.ARRAY_ACCESS, Tree.Kind.INT_LITERAL, Tree.Kind.BOOLEAN_LITERAL,
        Tree.Kind.NULL_LITERAL, Tree.Kind.PARENTHESIZED, Tree.Kind.CONDITIONAL_EXPRESSION, Tree.Kind.CONDITIONAL_AND,
        Tree.Kind.CONDITIONAL_OR, Tree.Kind.LOGICAL_COMPLEMENT, Tree.Kind.EQUAL_TO, Tree.Kind.NOT_EQUAL_TO, Tree.Kind.LESS_THAN,
        Tree.Kind.LESS_THAN_EQUAL, Tree.Kind.GREATER_THAN, Tree.Kind.GREATER_THAN_EQUAL, Tree.Kind.PLUS, Tree.Kind.MINUS,
        Tree.Kind.UNARY_MINUS, Tree.Kind.MULTIPLY, Tree.Kind.REMAINDER, Tree.Kind.AND, Tree.Kind.OR, Tree.Kind.LEFT_SHIFT,
        Tree.Kind.RIGHT_SHIFT, Tree.Kind.ASSIGNMENT, Tree.Kind.PLUS_ASSIGNMENT, Tree.Kind.MULTIPLY_ASSIGNMENT, Tree.Kind.OR_ASSIGNMENT,
        Tree.Kind.POSTFIX_INCREMENT, Tree.Kind.POSTFIX_DECREMENT);
    private static final Set<String> TYPES = Set.of("int", "boolean", "void", "int[]", "boolean[]");
    private static final Set<String> LIBRARY = Set.of("Math.abs", "Math.min", "Math.floorMod", "Integer.bitCount", "Object.<init>");
    private static final Set<String> RECURSIVE = Set.of("Automorphisms.countExtensions");
    private static final int MOST_PARAMETERS = 7;
    private static final int MOST_LINES = 60;
    private static final int DEEPEST = 8;
    private static final int MOST_CLASSES = 12;
    private static final int MOST_FIELDS = 20;

    private final Source source;
    private final Set<String> classes = new TreeSet<>();

    private LanguageTest(Source source) {
        this.source = source;
        source.each(ClassTree.class, (type, part) -> classes.add(type.getSimpleName().toString()));
    }

    public static void main(String[] args) throws IOException {
        LanguageTest test = new LanguageTest(Source.read());
        test.oneClassWithoutPackage();
        test.nestedClasses();
        test.types();
        test.library();
        test.staticFields();
        test.kinds();
        test.recursion();
        test.loops();
        test.sizes();
        test.depth();
        test.objects();
        Check.end("LanguageTest");
    }

    /** The head of the file, and rule 1 as far as FaceTest has not tested it. */
    private void oneClassWithoutPackage() {
        Check.holds("no package line", source.unit.getPackage() == null);
        Check.holds("no import", source.unit.getImports().isEmpty());
        Check.due("classes that are not inside another", source.unit.getTypeDecls().size(), 1);
        Check.holds("characters 1 to 127", source.text.chars().allMatch(sign -> sign > 0 && sign < 128));
    }

    /** Rule 2: classes stand in the outer class alone, are static, and no other class can override what they do. */
    private void nestedClasses() {
        source.each(ClassTree.class, (type, part) -> {
            Set<Modifier> modifiers = type.getModifiers().getFlags();
            boolean outer = type.getSimpleName().contentEquals("QuandleColorings");
            Check.holds(source.place(type) + " is final", modifiers.contains(Modifier.FINAL));
            Check.holds(source.place(type) + " is a class of its own", type.getExtendsClause() == null && type.getImplementsClause().isEmpty());
            Check.holds(source.place(type) + " is private and static", outer
                || modifiers.contains(Modifier.STATIC) && modifiers.contains(Modifier.PRIVATE) && part.getParentPath().getLeaf() instanceof ClassTree);
        });
    }

    /** Rule 3. */
    private void types() {
        source.each(VariableTree.class, (variable, part) -> Check.holds(source.place(variable) + " has an allowed type", isAllowed(variable.getType())));
        source.each(MethodTree.class, (method, part) -> Check.holds(source.place(method) + " answers an allowed type",
            method.getReturnType() == null || isAllowed(method.getReturnType())));
        source.each(NewArrayTree.class, (array, part) -> Check.holds(source.place(array) + " has one dimension",
            array.getDimensions().size() + (array.getInitializers() == null ? 0 : 1) == 1));
    }

    private boolean isAllowed(Tree type) {
        String name = String.valueOf(type);
        return TYPES.contains(name) || classes.contains(name.replace("[]", "")) && !name.endsWith("[][]");
    }

    /** Rules 4, 6 and 13: no other method of the library is called, and no other class of it is named. */
    private void library() {
        source.each(MethodInvocationTree.class, (call, part) -> dueInLibrary(call, part));
        source.each(NewClassTree.class, (made, part) -> dueInLibrary(made, part));
        source.each(IdentifierTree.class, (name, part) -> {
            Element element = source.element(part);
            boolean type = element != null && (element.getKind().isClass() || element.getKind().isInterface());
            Check.holds(source.place(name) + " is an allowed name",
                !type || source.isOwn(element) || name.getName().contentEquals("Math") || name.getName().contentEquals("Integer"));
        });
    }

    private void dueInLibrary(Tree call, TreePath part) {
        Element called = source.element(part);
        Check.holds(source.place(call) + " is allowed", called != null && (source.isOwn(called) || LIBRARY.contains(Source.nameOf(called))));
    }

    /** Rule 5: the one array is written out, and no more is done with it than to read it. */
    private void staticFields() {
        source.each(VariableTree.class, (field, part) -> {
            Element element = source.element(part);
            if (element != null && element.getKind() == ElementKind.FIELD && Source.isStatic(element)) {
                boolean writtenOut = field.getInitializer() instanceof NewArrayTree array && array.getInitializers() != null;
                Check.holds(source.place(field) + " is final", element.getModifiers().contains(Modifier.FINAL));
                Check.holds(source.place(field) + " is a number or written out", field.getType().toString().equals("int")
                    || field.getType().toString().equals("int[]") && writtenOut);
            }
        });
        source.each(IdentifierTree.class, (name, part) -> {
            Element element = source.element(part);
            if (element != null && element.getKind() == ElementKind.FIELD && Source.isStatic(element) && element.asType().toString().endsWith("[]")) {
                Check.holds(source.place(part.getParentPath().getLeaf()) + " reads " + name, isReading(part));
            }
        });
        source.each(BlockTree.class, (block, part) -> Check.holds("no block of initialisation", !(part.getParentPath().getLeaf() instanceof ClassTree)));
    }

    private static boolean isReading(TreePath array) {
        Tree user = array.getParentPath().getLeaf();
        Tree around = array.getParentPath().getParentPath().getLeaf();
        boolean isLength = user instanceof MemberSelectTree select && select.getIdentifier().contentEquals("length");
        boolean isElement = user instanceof ArrayAccessTree access && access.getExpression() == array.getLeaf()
            && (around.getKind() == Tree.Kind.CONDITIONAL_EXPRESSION || around.getKind() == Tree.Kind.RETURN);
        return isLength || isElement;
    }

    /** Rules 2, 6 and 10: among what is not listed are throw, try, lambdas, casts, labels, and loops without a counter. */
    private void kinds() {
        source.each(Tree.class, (tree, part) -> Check.holds(source.place(tree) + " is of a listed kind: " + tree.getKind(), KINDS.contains(tree.getKind())));
    }

    /** Rule 8: what calls itself is listed, private and static; nothing calls itself by way of another. */
    private void recursion() {
        Map<Element, Set<Element>> calls = source.calls();
        Set<String> recursive = new TreeSet<>();
        for (Element method : calls.keySet()) {
            if (calls.get(method).contains(method)) {
                recursive.add(Source.nameOf(method));
                Check.holds(Source.nameOf(method) + " is private and static", Source.isStatic(method) && method.getModifiers().contains(Modifier.PRIVATE));
            }
        }
        Check.holds("what calls itself: " + recursive, recursive.equals(RECURSIVE));
    }

    /** Rule 9: each loop has its own counter, a bound for it and a step of one. */
    private void loops() {
        source.each(ForLoopTree.class, (loop, part) -> {
            boolean whole = loop.getInitializer().size() == 1 && loop.getCondition() != null && loop.getUpdate().size() == 1;
            Check.holds(source.place(loop) + " has a counter, a bound and a step", whole);
            if (whole && loop.getInitializer().get(0) instanceof VariableTree counter) {
                String name = counter.getName().toString();
                String step = loop.getUpdate().get(0).getExpression().toString();
                String bound = loop.getCondition().toString();
                Check.holds(source.place(loop) + " counts up to a bound or down to 0", step.equals(name + "++") && bound.contains(name + " <")
                    || step.equals(name + "--") && bound.equals(name + " >= 0"));
                Check.holds(source.place(loop) + " leaves its counter alone", !changes(loop.getStatement(), name));
            } else {
                Check.holds(source.place(loop) + " makes its counter", false);
            }
        });
    }

    private static boolean changes(Tree body, String name) {
        String change = "(?<![\\w.])" + name + "( [-+*/%&|^]?= |\\+\\+|--)|(\\+\\+|--)" + name + "\\b";
        return Pattern.compile(change).matcher(body.toString()).find();
    }

    /** Rule 11. */
    private void sizes() {
        source.each(MethodTree.class, (method, part) -> {
            Check.holds(source.place(method) + " has few parameters", method.getParameters().size() <= MOST_PARAMETERS);
            Check.holds(source.place(method) + " is short", source.lines(method) <= MOST_LINES);
        });
        Check.holds("classes: " + classes, classes.size() <= MOST_CLASSES);
        source.each(ClassTree.class, (type, part) -> {
            long fields = type.getMembers().stream().filter(member -> member instanceof VariableTree field
                && !field.getModifiers().getFlags().contains(Modifier.STATIC)).count();
            Check.holds(source.place(type) + " has few fields", fields <= MOST_FIELDS);
        });
    }

    /** Rule 11, the calls that stand open at once; a call of itself aside. */
    private void depth() {
        Map<Element, Set<Element>> calls = source.calls();
        for (Element method : calls.keySet()) {
            int depth = depthFrom(method, calls, new ArrayDeque<>());
            Check.holds(Source.nameOf(method) + " goes " + depth + " deep", depth <= DEEPEST);
        }
        Check.holds("the methods that call others are found", calls.size() > 50);
    }

    private static int depthFrom(Element method, Map<Element, Set<Element>> calls, Deque<Element> open) {
        if (open.contains(method)) {
            return DEEPEST + 1;
        }
        open.push(method);
        int deepest = 0;
        for (Element called : calls.getOrDefault(method, Set.of())) {
            if (!called.equals(method)) {
                deepest = Math.max(deepest, depthFrom(called, calls, open));
            }
        }
        open.pop();
        return deepest + 1;
    }

    /** Rule 12, and the one room: what an object needs is made with it, and no call makes more. */
    private void objects() {
        source.each(ExpressionTree.class, (made, part) -> {
            if (made instanceof NewClassTree || made instanceof NewArrayTree) {
                MethodTree around = Source.methodAround(part);
                Check.holds(source.place(made) + " is made with its object", around == null || Source.isConstructor(source.element(part(around))));
            }
        });
    }

    private TreePath part(MethodTree method) {
        return TreePath.getPath(source.unit, method);
    }
}
