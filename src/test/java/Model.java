import java.util.ArrayDeque;
import java.util.ArrayList;
import java.util.Arrays;
import java.util.Collections;
import java.util.Deque;
import java.util.HashSet;
import java.util.List;
import java.util.Set;

/** A second reading of the document, written for plainness and with other means than the program's. */
final class Model {
    /** A state is never changed: an edit makes a new one. */
    private record State(int[][] table, int strands, List<Integer> crossings, int modulus, int[][] weights) {
        int n() {
            return table.length;
        }

        State withTable(int[][] newTable, int[][] newWeights) {
            return new State(newTable, strands, crossings, modulus, newWeights);
        }

        State withBraid(int newStrands, List<Integer> newCrossings) {
            return new State(table, newStrands, newCrossings, modulus, weights);
        }

        State withWeights(int newModulus, int[][] newWeights) {
            return new State(table, strands, crossings, newModulus, newWeights);
        }
    }

    private interface Rule {
        int apply(int x, int y);
    }

    private State now;
    private final Deque<State> past = new ArrayDeque<>();

    Model() {
        now = new State(tableOf(3, (x, y) -> (2 * y - x + 3) % 3), 2, List.of(1, 1, 1), 3, new int[3][3]);
    }

    private static int[][] tableOf(int n, Rule rule) {
        int[][] table = new int[n][n];
        for (int x = 0; x < n; x++) {
            for (int y = 0; y < n; y++) {
                table[x][y] = rule.apply(x, y);
            }
        }
        return table;
    }

    private void edit(State next) {
        past.push(now);
        if (past.size() > 5) {
            past.removeLast();
        }
        now = next;
    }

    private int load(int size, Rule rule) {
        if (size < 1 || size > 6) {
            return Check.BAD_ARGUMENT;
        }
        edit(now.withTable(tableOf(size, rule), new int[size][size]));
        return size;
    }

    private boolean isElement(int... numbers) {
        return Arrays.stream(numbers).allMatch(x -> 0 <= x && x < now.n());
    }

    private boolean isWeight(int number) {
        return 0 <= number && number < now.modulus;
    }

    private int times(int x, int y) {
        return now.table[x][y];
    }

    private int over(int x, int y) {
        for (int u = 0; u < now.n(); u++) {
            if (times(u, y) == x) {
                return u;
            }
        }
        throw new IllegalStateException("not invertible");
    }

    private List<Integer> column(int y) {
        List<Integer> column = new ArrayList<>();
        for (int x = 0; x < now.n(); x++) {
            column.add(times(x, y));
        }
        return column;
    }

    private boolean isInvertible() {
        return nonInvertibleColumn() == Check.NONE;
    }

    int loadTrivial(int size) {
        return load(size, (x, y) -> x);
    }

    int loadDihedral(int size) {
        return load(size, (x, y) -> (2 * y - x + size) % size);
    }

    int loadAlexander(int size, int t) {
        if (size < 1 || size > 6 || t < 0 || t >= size || gcd(size, t) > 1) {
            return Check.BAD_ARGUMENT;
        }
        return load(size, (x, y) -> (t * x + y + (size - t) * y) % size);
    }

    private static int gcd(int a, int b) {
        return b == 0 ? a : gcd(b, a % b);
    }

    int loadConjugation() {
        List<List<Integer>> group = permutations(3);
        return load(6, (x, y) -> {
            List<Integer> p = group.get(x);
            List<Integer> q = group.get(y);
            List<Integer> result = new ArrayList<>();
            for (int i = 0; i < 3; i++) {
                result.add(q.indexOf(p.get(q.get(i))));
            }
            return group.indexOf(result);
        });
    }

    private static List<List<Integer>> permutations(int n) {
        List<List<Integer>> all = new ArrayList<>();
        extend(new ArrayList<>(), n, all);
        return all;
    }

    private static void extend(List<Integer> begun, int n, List<List<Integer>> all) {
        if (begun.size() == n) {
            all.add(begun);
            return;
        }
        for (int i = 0; i < n; i++) {
            if (!begun.contains(i)) {
                List<Integer> longer = new ArrayList<>(begun);
                longer.add(i);
                extend(longer, n, all);
            }
        }
    }

    int loadCyclicRack(int size) {
        return load(size, (x, y) -> (x + 1) % size);
    }

    int loadDual() {
        if (!isInvertible()) {
            return Check.BAD_STATE;
        }
        return load(now.n(), this::over);
    }

    int setEntry(int x, int y, int value) {
        if (!isElement(x, y, value)) {
            return Check.BAD_ARGUMENT;
        }
        int previous = times(x, y);
        edit(now.withTable(with(now.table, x, y, value), now.weights));
        return previous;
    }

    private static int[][] with(int[][] table, int x, int y, int value) {
        return tableOf(table.length, (u, v) -> u == x && v == y ? value : table[u][v]);
    }

    int size() {
        return now.n();
    }

    int entry(int x, int y) {
        return isElement(x, y) ? times(x, y) : Check.BAD_ARGUMENT;
    }

    int quotient(int x, int y) {
        if (!isElement(x, y)) {
            return Check.BAD_ARGUMENT;
        }
        return isInvertible() ? over(x, y) : Check.BAD_STATE;
    }

    int nonInvertibleColumn() {
        for (int y = 0; y < now.n(); y++) {
            if (new HashSet<>(column(y)).size() < now.n()) {
                return y;
            }
        }
        return Check.NONE;
    }

    int distributivityViolation() {
        for (int i = 0; i < 216; i++) {
            int x = i / 36;
            int y = i / 6 % 6;
            int z = i % 6;
            if (isElement(x, y, z) && times(times(x, y), z) != times(times(x, z), times(y, z))) {
                return i;
            }
        }
        return Check.NONE;
    }

    int idempotencyViolation() {
        for (int x = 0; x < now.n(); x++) {
            if (times(x, x) != x) {
                return x;
            }
        }
        return Check.NONE;
    }

    int kind() {
        boolean rack = isInvertible() && distributivityViolation() == Check.NONE;
        return !rack ? 0 : idempotencyViolation() == Check.NONE ? 2 : 1;
    }

    int orbit(int x) {
        if (!isElement(x)) {
            return Check.BAD_ARGUMENT;
        }
        Set<Integer> reached = new HashSet<>();
        Deque<Integer> open = new ArrayDeque<>(List.of(x));
        while (!open.isEmpty()) {
            int u = open.pop();
            if (reached.add(u)) {
                for (int y = 0; y < now.n(); y++) {
                    open.push(times(u, y));
                    if (isInvertible()) {
                        open.push(over(u, y));
                    }
                }
            }
        }
        return reached.stream().mapToInt(u -> 1 << u).sum();
    }

    int innerGroupOrder() {
        if (!isInvertible()) {
            return Check.BAD_STATE;
        }
        List<Integer> identity = new ArrayList<>();
        for (int x = 0; x < now.n(); x++) {
            identity.add(x);
        }
        Set<List<Integer>> group = new HashSet<>();
        Deque<List<Integer>> open = new ArrayDeque<>(List.of(identity));
        while (!open.isEmpty()) {
            List<Integer> p = open.pop();
            if (group.add(p)) {
                for (int y = 0; y < now.n(); y++) {
                    List<Integer> column = column(y);
                    open.push(p.stream().map(column::get).toList());
                }
            }
        }
        return group.size();
    }

    int automorphismCount() {
        int count = 0;
        for (List<Integer> p : permutations(now.n())) {
            boolean good = true;
            for (int x = 0; x < now.n(); x++) {
                for (int y = 0; y < now.n(); y++) {
                    good &= p.get(times(x, y)) == times(p.get(x), p.get(y));
                }
            }
            count += good ? 1 : 0;
        }
        return count;
    }

    int setStrands(int strands) {
        if (strands < 2 || strands > 4) {
            return Check.BAD_ARGUMENT;
        }
        int previous = now.strands;
        edit(now.withBraid(strands, List.of()));
        return previous;
    }

    int appendCrossing(int crossing) {
        if (crossing == 0 || Math.abs((long) crossing) >= now.strands) {
            return Check.BAD_ARGUMENT;
        }
        if (now.crossings.size() == 12) {
            return Check.LIMIT;
        }
        List<Integer> longer = new ArrayList<>(now.crossings);
        longer.add(crossing);
        edit(now.withBraid(now.strands, Collections.unmodifiableList(longer)));
        return longer.size();
    }

    int removeCrossing() {
        int count = now.crossings.size();
        if (count == 0) {
            return Check.NONE;
        }
        int last = now.crossings.get(count - 1);
        edit(now.withBraid(now.strands, now.crossings.subList(0, count - 1)));
        return Math.abs(last);
    }

    int crossingCount() {
        return now.crossings.size();
    }

    /** The total weight of the assignment, -1 if it is no coloring. */
    private int totalOf(int code) {
        int[] top = new int[now.strands];
        int rest = code;
        for (int i = now.strands - 1; i >= 0; i--) {
            top[i] = rest % now.n();
            rest /= now.n();
        }
        int[] colors = top.clone();
        int total = 0;
        for (int g : now.crossings) {
            int right = Math.abs(g);
            int a = colors[right - 1];
            int b = colors[right];
            colors[right - 1] = g > 0 ? b : over(b, a);
            colors[right] = g > 0 ? times(a, b) : a;
            total += g > 0 ? now.weights[a][b] : -now.weights[over(b, a)][a];
        }
        return Arrays.equals(top, colors) ? Math.floorMod(total, now.modulus) : -1;
    }

    private int codes() {
        int codes = 1;
        for (int i = 0; i < now.strands; i++) {
            codes *= now.n();
        }
        return codes;
    }

    int coloringCount() {
        if (!isInvertible()) {
            return Check.BAD_STATE;
        }
        int count = 0;
        for (int code = 0; code < codes(); code++) {
            count += totalOf(code) >= 0 ? 1 : 0;
        }
        return count;
    }

    int nextColoring(int from) {
        if (from < 0) {
            return Check.BAD_ARGUMENT;
        }
        if (!isInvertible()) {
            return Check.BAD_STATE;
        }
        for (int code = from; code < codes(); code++) {
            if (totalOf(code) >= 0) {
                return code;
            }
        }
        return Check.NONE;
    }

    int setModulus(int modulus) {
        if (modulus < 2 || modulus > 12) {
            return Check.BAD_ARGUMENT;
        }
        int previous = now.modulus;
        edit(now.withWeights(modulus, new int[now.n()][now.n()]));
        return previous;
    }

    int setWeight(int x, int y, int weight) {
        if (!isElement(x, y) || !isWeight(weight)) {
            return Check.BAD_ARGUMENT;
        }
        int previous = now.weights[x][y];
        edit(now.withWeights(now.modulus, with(now.weights, x, y, weight)));
        return previous;
    }

    int addCoboundary(int x, int amount) {
        if (!isElement(x) || !isWeight(amount)) {
            return Check.BAD_ARGUMENT;
        }
        int[][] old = now.weights;
        int[][] grown = tableOf(now.n(), (u, v) ->
            Math.floorMod(old[u][v] + (u == x ? amount : 0) - (times(u, v) == x ? amount : 0), now.modulus));
        int changed = 0;
        for (int u = 0; u < now.n(); u++) {
            for (int v = 0; v < now.n(); v++) {
                changed += grown[u][v] == old[u][v] ? 0 : 1;
            }
        }
        edit(now.withWeights(now.modulus, grown));
        return changed;
    }

    int weight(int x, int y) {
        return isElement(x, y) ? now.weights[x][y] : Check.BAD_ARGUMENT;
    }

    int cocycleViolation() {
        int[][] w = now.weights;
        for (int i = 0; i < 216; i++) {
            int x = i / 36;
            int y = i / 6 % 6;
            int z = i % 6;
            if (isElement(x, y, z)) {
                int difference = w[x][y] + w[times(x, y)][z] - w[x][z] - w[times(x, z)][times(y, z)];
                if (difference % now.modulus != 0) {
                    return i;
                }
            }
        }
        return Check.NONE;
    }

    int stateSum(int total) {
        if (!isWeight(total)) {
            return Check.BAD_ARGUMENT;
        }
        if (!isInvertible()) {
            return Check.BAD_STATE;
        }
        int count = 0;
        for (int code = 0; code < codes(); code++) {
            count += totalOf(code) == total ? 1 : 0;
        }
        return count;
    }

    int undo() {
        if (past.isEmpty()) {
            return Check.NONE;
        }
        now = past.pop();
        return past.size();
    }
}
