import java.io.IOException;
import java.lang.reflect.Constructor;
import java.lang.reflect.Field;
import java.lang.reflect.Method;
import java.lang.reflect.Modifier;
import java.util.ArrayList;
import java.util.Arrays;
import java.util.HashSet;
import java.util.List;
import java.util.Set;
import java.util.regex.Matcher;
import java.util.regex.Pattern;

/** The constants, the constructor and the methods are those of "The public face", and there is no other member to see. */
public final class FaceTest {
    private static final String HEAD = "public final class QuandleColorings {";
    private static final List<String> CONSTANTS = List.of(
        "INVALID_ARGUMENT = -1", "INVALID_STATE = -2", "LIMIT_REACHED = -3", "NOT_FOUND = -4");
    private static final String CONSTRUCTOR = "QuandleColorings()";
    private static final List<String> METHODS = List.of(
        "loadTrivial(int size)", "loadDihedral(int size)", "loadAlexander(int size, int t)", "loadConjugation()",
        "loadCyclicRack(int size)", "loadDual()", "setEntry(int x, int y, int value)", "size()", "entry(int x, int y)",
        "quotient(int x, int y)", "nonInvertibleColumn()", "distributivityViolation()", "idempotencyViolation()", "kind()",
        "orbit(int x)", "innerGroupOrder()", "automorphismCount()", "setStrands(int strands)", "appendCrossing(int crossing)",
        "removeCrossing()", "crossingCount()", "coloringCount()", "nextColoring(int from)", "setModulus(int modulus)",
        "setWeight(int x, int y, int weight)", "addCoboundary(int x, int amount)", "weight(int x, int y)", "cocycleViolation()",
        "stateSum(int total)", "undo()");

    public static void main(String[] args) throws IOException, IllegalAccessException {
        outerClass();
        constants();
        constructor();
        methods();
        privateNames();
        nestedClasses();
        compareWithDocument();
        Check.end("FaceTest");
    }

    private static void outerClass() {
        Class<?> type = QuandleColorings.class;
        Check.holds("the class is public and final", type.getModifiers() == (Modifier.PUBLIC | Modifier.FINAL));
        Check.holds("it has no package", type.getPackageName().isEmpty());
        Check.holds("it is no other class", type.getSuperclass() == Object.class && type.getInterfaces().length == 0);
    }

    private static void constants() throws IllegalAccessException {
        Set<String> seen = new HashSet<>();
        for (Field field : QuandleColorings.class.getDeclaredFields()) {
            if (!Modifier.isPrivate(field.getModifiers())) {
                int constant = Modifier.PUBLIC | Modifier.STATIC | Modifier.FINAL;
                Check.holds(field + " is a constant of int", field.getModifiers() == constant && field.getType() == int.class);
                seen.add(field.getName() + " = " + field.get(null));
            }
        }
        Check.holds("the fields to see are the four constants: " + seen, seen.equals(new HashSet<>(CONSTANTS)));
    }

    private static void constructor() {
        Constructor<?>[] all = QuandleColorings.class.getDeclaredConstructors();
        Check.due("constructors", all.length, 1);
        Check.holds("it is public, without parameters", all[0].getModifiers() == Modifier.PUBLIC && all[0].getParameterCount() == 0);
        Check.due("it declares exceptions", all[0].getExceptionTypes().length, 0);
    }

    private static void methods() {
        Set<String> seen = new HashSet<>();
        for (Method method : QuandleColorings.class.getDeclaredMethods()) {
            if (!Modifier.isPrivate(method.getModifiers())) {
                boolean ints = Arrays.stream(method.getParameterTypes()).allMatch(type -> type == int.class);
                Check.holds(method + " is over int", ints && method.getReturnType() == int.class);
                Check.holds(method + " is public, no static", method.getModifiers() == Modifier.PUBLIC);
                Check.due(method + " declares exceptions", method.getExceptionTypes().length, 0);
                seen.add(method.getName() + " " + method.getParameterCount());
            }
        }
        Set<String> due = new HashSet<>();
        for (String method : METHODS) {
            due.add(nameOf(method) + " " + parametersOf(method));
        }
        Check.holds("the methods are the document's: " + seen, seen.equals(due));
    }

    private static String nameOf(String method) {
        return method.substring(0, method.indexOf('('));
    }

    private static int parametersOf(String method) {
        Matcher parameters = Pattern.compile("int \\w+").matcher(method);
        return (int) parameters.results().count();
    }

    /** The members of the classes inside are no part of the face, but bear no name of it either. */
    private static void privateNames() {
        Set<String> names = new HashSet<>();
        for (String method : METHODS) {
            names.add(nameOf(method));
        }
        for (Method method : QuandleColorings.class.getDeclaredMethods()) {
            boolean open = Modifier.isPublic(method.getModifiers());
            Check.holds(method + " has a name of its own", open || !names.contains(method.getName()));
        }
        for (Class<?> nested : QuandleColorings.class.getDeclaredClasses()) {
            for (Method method : nested.getDeclaredMethods()) {
                Check.holds(method + " has a name of its own", !names.contains(method.getName()));
            }
        }
    }

    private static void nestedClasses() {
        for (Class<?> type : QuandleColorings.class.getDeclaredClasses()) {
            int modifiers = type.getModifiers();
            boolean hidden = !Modifier.isPublic(modifiers) && !Modifier.isProtected(modifiers);
            Check.holds(type + " is static and hidden", Modifier.isStatic(modifiers) && hidden);
        }
    }

    private static void compareWithDocument() throws IOException {
        if (!Document.isHere()) {
            return;
        }
        List<String> face = new ArrayList<>(List.of(HEAD));
        CONSTANTS.forEach(constant -> face.add("public static final int " + constant + ";"));
        face.add("public " + CONSTRUCTOR + ";");
        METHODS.forEach(method -> face.add("public int " + method + ";"));
        face.add("}");
        List<String> said = new ArrayList<>();
        for (String line : Document.linesUnder("## The public face")) {
            if (!line.isBlank() && !line.startsWith("```")) {
                said.add(line.trim());
            }
        }
        Check.holds("the document's face is the tested one: " + said, said.equals(face));
        compareSignatures();
    }

    /** Promise 1 is the constructor; the methods follow in their order. */
    private static void compareSignatures() throws IOException {
        for (int promise = 1; promise <= METHODS.size() + 1; promise++) {
            String due = promise == 1 ? CONSTRUCTOR : "int " + METHODS.get(promise - 2);
            List<String> said = new ArrayList<>();
            for (String line : Document.linesUnder("## Promise " + promise + ":")) {
                if (Document.isSignature(line)) {
                    said.add(line);
                }
            }
            Check.holds("promise " + promise + " is " + due + ": " + said, said.equals(List.of("`" + due + "`")));
        }
    }
}
