import java.lang.reflect.Constructor;
import java.lang.reflect.Field;
import java.lang.reflect.Method;
import java.lang.reflect.Modifier;
import java.util.Arrays;
import java.util.HashSet;
import java.util.Set;

/** The constants, the constructor and the methods are the document's, and there is no other member to see. */
public final class FaceTest {
    private static final String[] METHODS = {
        "loadTrivial 1", "loadDihedral 1", "loadAlexander 2", "loadConjugation 0", "loadCyclicRack 1", "loadDual 0",
        "setEntry 3", "size 0", "entry 2", "quotient 2", "nonInvertibleColumn 0", "distributivityViolation 0",
        "idempotencyViolation 0", "kind 0", "orbit 1", "innerGroupOrder 0", "automorphismCount 0", "setStrands 1",
        "appendCrossing 1", "removeCrossing 0", "crossingCount 0", "coloringCount 0", "nextColoring 1",
        "setModulus 1", "setWeight 3", "addCoboundary 2", "weight 2", "cocycleViolation 0", "stateSum 1", "undo 0",
    };

    public static void main(String[] args) {
        constants();
        constructor();
        methods();
        privateNames();
        fields();
        nestedClasses();
        Check.end("FaceTest");
    }

    private static void constants() {
        Check.due("INVALID_ARGUMENT", QuandleColorings.INVALID_ARGUMENT, -1);
        Check.due("INVALID_STATE", QuandleColorings.INVALID_STATE, -2);
        Check.due("LIMIT_REACHED", QuandleColorings.LIMIT_REACHED, -3);
        Check.due("NOT_FOUND", QuandleColorings.NOT_FOUND, -4);
    }

    private static void constructor() {
        int modifiers = QuandleColorings.class.getModifiers();
        Check.holds("the class is public and final", Modifier.isPublic(modifiers) && Modifier.isFinal(modifiers));
        Constructor<?>[] all = QuandleColorings.class.getDeclaredConstructors();
        Check.due("constructors", all.length, 1);
        Check.holds("it is public, without parameters", Modifier.isPublic(all[0].getModifiers()) && all[0].getParameterCount() == 0);
    }

    private static void methods() {
        Set<String> seen = new HashSet<>();
        for (Method method : QuandleColorings.class.getDeclaredMethods()) {
            if (!Modifier.isPrivate(method.getModifiers())) {
                boolean ints = Arrays.stream(method.getParameterTypes()).allMatch(type -> type == int.class);
                Check.holds(method + " is over int", ints && method.getReturnType() == int.class);
                Check.holds(method + " is public, no static", method.getModifiers() == Modifier.PUBLIC);
                seen.add(method.getName() + " " + method.getParameterCount());
            }
        }
        Check.holds("the methods are the document's: " + seen, seen.equals(new HashSet<>(Arrays.asList(METHODS))));
    }

    private static void privateNames() {
        Set<String> names = new HashSet<>();
        for (String method : METHODS) {
            names.add(method.substring(0, method.indexOf(' ')));
        }
        for (Method method : QuandleColorings.class.getDeclaredMethods()) {
            if (Modifier.isPrivate(method.getModifiers())) {
                Check.holds(method + " has a name of its own", !names.contains(method.getName()));
            }
        }
        for (Class<?> nested : QuandleColorings.class.getDeclaredClasses()) {
            for (Method method : nested.getDeclaredMethods()) {
                Check.holds(method + " has a name of its own", !names.contains(method.getName()));
            }
        }
    }

    private static void fields() {
        Set<String> open = new HashSet<>();
        for (Field field : QuandleColorings.class.getDeclaredFields()) {
            if (!Modifier.isPrivate(field.getModifiers())) {
                open.add(field.getName());
            }
            if (Modifier.isStatic(field.getModifiers())) {
                Check.holds(field + " is final", Modifier.isFinal(field.getModifiers()));
            }
        }
        Set<String> due = Set.of("INVALID_ARGUMENT", "INVALID_STATE", "LIMIT_REACHED", "NOT_FOUND");
        Check.holds("the fields to see are the four constants: " + open, open.equals(due));
    }

    private static void nestedClasses() {
        Class<?>[] nested = QuandleColorings.class.getDeclaredClasses();
        Check.holds("at most twelve classes", nested.length <= 11);
        for (Class<?> type : nested) {
            int modifiers = type.getModifiers();
            boolean hidden = !Modifier.isPublic(modifiers) && !Modifier.isProtected(modifiers);
            Check.holds(type + " is static and hidden", Modifier.isStatic(modifiers) && hidden);
        }
    }
}
