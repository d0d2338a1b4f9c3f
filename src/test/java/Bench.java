import java.lang.reflect.InvocationTargetException;
import java.lang.reflect.Method;
import java.util.HashMap;
import java.util.Map;
import java.util.regex.Matcher;
import java.util.regex.Pattern;

/**
 * A new object and a run of calls on it, written as the document writes its examples:
 * "setEntry(0, 0, 1) = 0; coloringCount() = INVALID_STATE". A call without an answer must not be refused.
 */
final class Bench {
    private static final Pattern CALL = Pattern.compile("(\\w+)\\(([-\\d, ]*)\\)(?: = (-?\\w+))?");
    private static final Map<String, Integer> ERRORS =
        Map.of("INVALID_ARGUMENT", -1, "INVALID_STATE", -2, "LIMIT_REACHED", -3, "NOT_FOUND", -4);
    private static final Map<String, Method> METHODS = methods();
    /** The document tells nothing of an object after this many calls. */
    private static final int MOST_CALLS = 512;
    private static final int MOST_PRINTED = 400;

    private final QuandleColorings object = new QuandleColorings();
    private final StringBuilder soFar = new StringBuilder();
    private int calls = 0;

    private static Map<String, Method> methods() {
        Map<String, Method> methods = new HashMap<>();
        for (Method method : QuandleColorings.class.getDeclaredMethods()) {
            methods.put(method.getName() + method.getParameterCount(), method);
        }
        return methods;
    }

    static Bench after(String run) {
        return new Bench().run(run);
    }

    Bench run(String run) {
        for (String call : run.split(";")) {
            if (!call.isBlank()) {
                runOne(call.trim());
            }
        }
        return this;
    }

    private void runOne(String text) {
        Matcher call = CALL.matcher(text);
        if (!call.matches()) {
            throw new IllegalArgumentException("not a call: " + text);
        }
        String name = call.group(1) + "(" + call.group(2) + ")";
        if (call.group(3) == null) {
            int answer = ask(name);
            Check.holds(last() + " is taken, it answered " + answer, answer >= 0);
        } else {
            due(name, number(call.group(3)));
        }
    }

    Bench due(String call, int want) {
        int got = ask(call);
        Check.due(last(), got, want);
        return this;
    }

    /** Answers the call, whatever the answer is. */
    int ask(String text) {
        Matcher call = CALL.matcher(text);
        if (!call.matches()) {
            throw new IllegalArgumentException("not a call: " + text);
        }
        calls++;
        if (calls > MOST_CALLS) {
            throw new IllegalStateException("the test makes more than " + MOST_CALLS + " calls on one object");
        }
        soFar.append(calls == 1 ? "" : "; ").append(text);
        Object[] arguments = arguments(call.group(2));
        Method method = METHODS.get(call.group(1) + arguments.length);
        if (method == null) {
            throw new IllegalArgumentException("no such method: " + text);
        }
        try {
            return (int) method.invoke(object, arguments);
        } catch (InvocationTargetException e) {
            throw new IllegalStateException(last() + " threw " + e.getCause(), e);
        } catch (IllegalAccessException e) {
            throw new IllegalStateException(e);
        }
    }

    private static Object[] arguments(String list) {
        if (list.isBlank()) {
            return new Object[0];
        }
        String[] texts = list.split(", ");
        Object[] arguments = new Object[texts.length];
        for (int i = 0; i < texts.length; i++) {
            arguments[i] = Integer.valueOf(texts[i]);
        }
        return arguments;
    }

    private static int number(String text) {
        Integer error = ERRORS.get(text);
        return error != null ? error : Integer.parseInt(text);
    }

    /** The run up to the call that was made last; of a long run only its end. */
    private String last() {
        int from = Math.max(0, soFar.length() - MOST_PRINTED);
        return (from > 0 ? ".. " : "") + soFar.substring(from);
    }

    /** The rows are given as "0 2 1 / 2 1 0 / 1 0 2", row x holding x * 0, x * 1, ... */
    Bench dueTable(String rows) {
        due("size()", rows.split("/").length);
        return dueCells("entry", rows);
    }

    Bench dueWeights(String rows) {
        return dueCells("weight", rows);
    }

    private Bench dueCells(String method, String rows) {
        int[][] cells = cells(rows);
        for (int x = 0; x < cells.length; x++) {
            for (int y = 0; y < cells.length; y++) {
                due(method + "(" + x + ", " + y + ")", cells[x][y]);
            }
        }
        return this;
    }

    /** These are the codes of all colorings, in their order. */
    Bench dueColorings(int... codes) {
        due("coloringCount()", codes.length);
        int from = 0;
        for (int code : codes) {
            due("nextColoring(" + from + ")", code);
            from = code + 1;
        }
        return due("nextColoring(" + from + ")", Check.NONE);
    }

    private static int[][] cells(String rows) {
        String[] parts = rows.split("/");
        int[][] cells = new int[parts.length][];
        for (int x = 0; x < parts.length; x++) {
            String[] numbers = parts[x].trim().split(" +");
            cells[x] = new int[numbers.length];
            for (int y = 0; y < numbers.length; y++) {
                cells[x][y] = Integer.parseInt(numbers[y]);
            }
        }
        return cells;
    }

    /** The calls that make the table the given one. */
    static String tableCalls(String rows) {
        return "loadTrivial(" + cells(rows).length + "); " + cellCalls("setEntry", rows);
    }

    static String weightCalls(String rows) {
        return cellCalls("setWeight", rows);
    }

    private static String cellCalls(String method, String rows) {
        int[][] cells = cells(rows);
        StringBuilder calls = new StringBuilder();
        for (int x = 0; x < cells.length; x++) {
            for (int y = 0; y < cells.length; y++) {
                calls.append(method + "(" + x + ", " + y + ", " + cells[x][y] + "); ");
            }
        }
        return calls.toString();
    }

    static String braidCalls(int strands, int... crossings) {
        StringBuilder calls = new StringBuilder("setStrands(" + strands + "); ");
        for (int crossing : crossings) {
            calls.append("appendCrossing(" + crossing + "); ");
        }
        return calls.toString();
    }
}
