/**
 * A workbench for finite racks and quandles: operation tables with their laws, inner automorphisms
 * and orbits, colorings of closed braids, and state sums of 2-cochains.
 */
public final class QuandleColorings {
    /** An argument is out of its range. */
    public static final int INVALID_ARGUMENT = -1;
    /** The operation does not have a property that is needed. */
    public static final int INVALID_STATE = -2;
    /** A fixed limit has been reached. */
    public static final int LIMIT_REACHED = -3;
    /** There is no such element. */
    public static final int NOT_FOUND = -4;

    private static final int MAX_SIZE = 6;
    private static final int CELLS = MAX_SIZE * MAX_SIZE;
    private static final int MAX_PERMUTATIONS = 720;
    private static final int MIN_STRANDS = 2;
    private static final int MAX_STRANDS = 4;
    private static final int MAX_CROSSINGS = 12;
    private static final int MIN_MODULUS = 2;
    private static final int MAX_MODULUS = 12;
    private static final int MAX_UNDO = 5;

    private static final int KIND_QUANDLE = 2;
    private static final int KIND_RACK = 1;
    private static final int KIND_OTHER = 0;

    private static final int POINTS = 3;
    /** The permutations of three points in lexicographic order, three images each. */
    private static final int[] PERMUTATIONS = {0, 1, 2, 0, 2, 1, 1, 0, 2, 1, 2, 0, 2, 0, 1, 2, 1, 0};

    private final State present = new State();
    private final History history = new History();
    private final Tracer tracer = new Tracer();
    private final InnerGroup innerGroup = new InnerGroup();
    private final Automorphisms automorphisms = new Automorphisms();

    /** Creates a workbench in the initial state, with an empty history. */
    public QuandleColorings() {
        present.becomeInitial();
    }

    // ---- operation

    /** Loads x * y = x; returns size, or INVALID_ARGUMENT. */
    public int loadTrivial(int size) {
        return loadLinear(size, 1, 0, 0);
    }

    /** Loads x * y = 2y - x modulo size; returns size, or INVALID_ARGUMENT. */
    public int loadDihedral(int size) {
        return loadLinear(size, -1, 2, 0);
    }

    /** Loads x * y = t x + (1 - t) y modulo size; returns size, or INVALID_ARGUMENT. */
    public int loadAlexander(int size, int t) {
        if (!isSize(size) || t < 0 || t >= size || haveCommonDivisor(size, t)) {
            return INVALID_ARGUMENT;
        }
        return loadLinear(size, t, 1 - t, 0);
    }

    /** Loads x * y = y^-1 x y in the symmetric group on three points; returns 6. */
    public int loadConjugation() {
        beginLoad();
        present.operation.becomeConjugation();
        return present.operation.size;
    }

    /** Loads x * y = x + 1 modulo size; returns size, or INVALID_ARGUMENT. */
    public int loadCyclicRack(int size) {
        return loadLinear(size, 1, 0, 1);
    }

    /** Loads the operation whose product is the present quotient; returns the size, or INVALID_STATE. */
    public int loadDual() {
        if (!present.operation.isInvertible()) {
            return INVALID_STATE;
        }
        beginLoad();
        present.operation.becomeDual();
        return present.operation.size;
    }

    /** Sets x * y; returns the previous one, or INVALID_ARGUMENT. */
    public int setEntry(int x, int y, int value) {
        Operation operation = present.operation;
        if (!operation.hasElements(x, y) || !operation.hasElement(value)) {
            return INVALID_ARGUMENT;
        }
        history.remember(present);
        int previous = operation.product(x, y);
        operation.setProduct(x, y, value);
        return previous;
    }

    /** Returns the number of elements. */
    public int size() {
        return present.operation.size;
    }

    /** Returns x * y, or INVALID_ARGUMENT. */
    public int entry(int x, int y) {
        if (!present.operation.hasElements(x, y)) {
            return INVALID_ARGUMENT;
        }
        return present.operation.product(x, y);
    }

    /** Returns x / y, INVALID_ARGUMENT, or INVALID_STATE. */
    public int quotient(int x, int y) {
        if (!present.operation.hasElements(x, y)) {
            return INVALID_ARGUMENT;
        }
        if (!present.operation.isInvertible()) {
            return INVALID_STATE;
        }
        return present.operation.divide(x, y);
    }

    // ---- laws

    /** Returns the least y whose column is not a bijection, or NOT_FOUND. */
    public int nonInvertibleColumn() {
        return present.operation.badColumn;
    }

    /** Returns the least 36 x + 6 y + z that violates distributivity, or NOT_FOUND. */
    public int distributivityViolation() {
        return present.operation.firstUndistributive();
    }

    /** Returns the least x for which x * x is not x, or NOT_FOUND. */
    public int idempotencyViolation() {
        return present.operation.firstUnidempotent();
    }

    /** Returns 2 for a quandle, 1 for another rack, 0 otherwise. */
    public int kind() {
        Operation operation = present.operation;
        if (!operation.isInvertible() || operation.firstUndistributive() != NOT_FOUND) {
            return KIND_OTHER;
        }
        return operation.firstUnidempotent() == NOT_FOUND ? KIND_QUANDLE : KIND_RACK;
    }

    // ---- inner structure

    /** Returns the orbit of x as a bit mask, or INVALID_ARGUMENT. */
    public int orbit(int x) {
        if (!present.operation.hasElement(x)) {
            return INVALID_ARGUMENT;
        }
        return present.operation.reachableFrom(x);
    }

    /** Returns the order of the group generated by the columns, or INVALID_STATE. */
    public int innerGroupOrder() {
        if (!present.operation.isInvertible()) {
            return INVALID_STATE;
        }
        return innerGroup.orderFor(present.operation);
    }

    /** Returns the number of automorphisms. */
    public int automorphismCount() {
        return automorphisms.countFor(present.operation);
    }

    // ---- braid

    /** Sets the number of strands and removes all crossings; returns the previous number, or INVALID_ARGUMENT. */
    public int setStrands(int strands) {
        if (strands < MIN_STRANDS || strands > MAX_STRANDS) {
            return INVALID_ARGUMENT;
        }
        history.remember(present);
        int previous = present.braid.strands;
        present.braid.restart(strands);
        return previous;
    }

    /** Appends a crossing; returns the new number of crossings, INVALID_ARGUMENT, or LIMIT_REACHED. */
    public int appendCrossing(int crossing) {
        Braid braid = present.braid;
        if (!braid.allows(crossing)) {
            return INVALID_ARGUMENT;
        }
        if (braid.count >= MAX_CROSSINGS) {
            return LIMIT_REACHED;
        }
        history.remember(present);
        braid.append(crossing);
        return braid.count;
    }

    /** Removes the last crossing; returns its absolute value, or NOT_FOUND. */
    public int removeCrossing() {
        Braid braid = present.braid;
        if (braid.count == 0) {
            return NOT_FOUND;
        }
        history.remember(present);
        return Math.abs(braid.removeLast());
    }

    /** Returns the number of crossings. */
    public int crossingCount() {
        return present.braid.count;
    }

    /** Returns the number of colorings of the closed braid, or INVALID_STATE. */
    public int coloringCount() {
        if (!present.operation.isInvertible()) {
            return INVALID_STATE;
        }
        return tracer.countAll(present);
    }

    /** Returns the least code of a coloring that is at least from, INVALID_ARGUMENT, INVALID_STATE, or NOT_FOUND. */
    public int nextColoring(int from) {
        if (from < 0) {
            return INVALID_ARGUMENT;
        }
        if (!present.operation.isInvertible()) {
            return INVALID_STATE;
        }
        return tracer.firstFrom(present, from);
    }

    // ---- weights

    /** Sets the modulus and all weights to 0; returns the previous modulus, or INVALID_ARGUMENT. */
    public int setModulus(int modulus) {
        if (modulus < MIN_MODULUS || modulus > MAX_MODULUS) {
            return INVALID_ARGUMENT;
        }
        history.remember(present);
        int previous = present.weights.modulus;
        present.weights.restart(modulus);
        return previous;
    }

    /** Sets a weight; returns the previous one, or INVALID_ARGUMENT. */
    public int setWeight(int x, int y, int weight) {
        Weights weights = present.weights;
        if (!present.operation.hasElements(x, y) || !weights.allows(weight)) {
            return INVALID_ARGUMENT;
        }
        history.remember(present);
        int previous = weights.values.get(x, y);
        weights.values.put(x, y, weight);
        return previous;
    }

    /** Adds a coboundary to the weights; returns how many have changed, or INVALID_ARGUMENT. */
    public int addCoboundary(int x, int amount) {
        if (!present.operation.hasElement(x) || !present.weights.allows(amount)) {
            return INVALID_ARGUMENT;
        }
        history.remember(present);
        return present.weights.addBoundary(present.operation, x, amount);
    }

    /** Returns a weight, or INVALID_ARGUMENT. */
    public int weight(int x, int y) {
        if (!present.operation.hasElements(x, y)) {
            return INVALID_ARGUMENT;
        }
        return present.weights.values.get(x, y);
    }

    /** Returns the least 36 x + 6 y + z that violates the cocycle equation, or NOT_FOUND. */
    public int cocycleViolation() {
        return present.weights.firstUnclosed(present.operation);
    }

    /** Returns the number of colorings with the given total weight, INVALID_ARGUMENT, or INVALID_STATE. */
    public int stateSum(int total) {
        if (!present.weights.allows(total)) {
            return INVALID_ARGUMENT;
        }
        if (!present.operation.isInvertible()) {
            return INVALID_STATE;
        }
        return tracer.countWithTotal(present, total);
    }

    // ---- history

    /** Undoes the latest edit; returns how many can still be undone, or NOT_FOUND. */
    public int undo() {
        if (history.count == 0) {
            return NOT_FOUND;
        }
        history.restoreLatest(present);
        return history.count;
    }

    private int loadLinear(int size, int xFactor, int yFactor, int shift) {
        if (!isSize(size)) {
            return INVALID_ARGUMENT;
        }
        beginLoad();
        present.operation.becomeLinear(size, xFactor, yFactor, shift);
        return size;
    }

    private void beginLoad() {
        history.remember(present);
        present.weights.values.clear();
    }

    private static boolean isSize(int size) {
        return size >= 1 && size <= MAX_SIZE;
    }

    private static boolean haveCommonDivisor(int size, int t) {
        for (int divisor = 2; divisor <= size; divisor++) {
            if (size % divisor == 0 && t % divisor == 0) {
                return true;
            }
        }
        return false;
    }

    private static int tripleCode(int x, int y, int z) {
        return 36 * x + 6 * y + z;
    }

    /** A number for each pair of elements; the indices are tested here, so no caller can leave the array. */
    private static final class Grid {
        private final int[] cells = new int[CELLS];

        private static boolean holds(int x, int y) {
            return x >= 0 && x < MAX_SIZE && y >= 0 && y < MAX_SIZE;
        }

        int get(int x, int y) {
            return holds(x, y) ? cells[MAX_SIZE * x + y] : 0;
        }

        void put(int x, int y, int value) {
            if (holds(x, y)) {
                cells[MAX_SIZE * x + y] = value;
            }
        }

        void clear() {
            for (int i = 0; i < CELLS; i++) {
                cells[i] = 0;
            }
        }

        void copyFrom(Grid other) {
            for (int i = 0; i < CELLS; i++) {
                cells[i] = other.cells[i];
            }
        }
    }

    /** The operation's table, with the table of quotients kept beside it for the many steps of a coloring. */
    private static final class Operation {
        private int size = 0;
        private final Grid products = new Grid();
        /** Holds x / y in the columns that are bijections; its other columns mean nothing. */
        private final Grid quotients = new Grid();
        /** The least column that is no bijection, or NOT_FOUND. */
        private int badColumn = NOT_FOUND;

        boolean hasElement(int x) {
            return x >= 0 && x < size;
        }

        boolean hasElements(int x, int y) {
            return hasElement(x) && hasElement(y);
        }

        boolean isInvertible() {
            return badColumn == NOT_FOUND;
        }

        int product(int x, int y) {
            return products.get(x, y);
        }

        int divide(int x, int y) {
            return quotients.get(x, y);
        }

        void setProduct(int x, int y, int value) {
            products.put(x, y, value);
            refreshQuotients();
        }

        /**
         * Trivial, dihedral, Alexander and cyclic operations are all of this form. The loops are entered only
         * for a size of 1 or more, so the divisor is never 0.
         */
        void becomeLinear(int newSize, int xFactor, int yFactor, int shift) {
            size = newSize;
            for (int x = 0; x < newSize; x++) {
                for (int y = 0; y < newSize; y++) {
                    products.put(x, y, Math.floorMod(xFactor * x + yFactor * y + shift, newSize));
                }
            }
            refreshQuotients();
        }

        void becomeConjugation() {
            size = MAX_SIZE;
            for (int x = 0; x < MAX_SIZE; x++) {
                for (int y = 0; y < MAX_SIZE; y++) {
                    products.put(x, y, conjugate(x, y));
                }
            }
            refreshQuotients();
        }

        /** Needs an invertible operation. */
        void becomeDual() {
            products.copyFrom(quotients);
            refreshQuotients();
        }

        void copyFrom(Operation other) {
            size = other.size;
            badColumn = other.badColumn;
            products.copyFrom(other.products);
            quotients.copyFrom(other.quotients);
        }

        int firstUndistributive() {
            for (int x = 0; x < size; x++) {
                for (int y = 0; y < size; y++) {
                    for (int z = 0; z < size; z++) {
                        if (product(product(x, y), z) != product(product(x, z), product(y, z))) {
                            return tripleCode(x, y, z);
                        }
                    }
                }
            }
            return NOT_FOUND;
        }

        int firstUnidempotent() {
            for (int x = 0; x < size; x++) {
                if (product(x, x) != x) {
                    return x;
                }
            }
            return NOT_FOUND;
        }

        /** A round that adds nothing ends the search, so there are no more rounds than elements. */
        int reachableFrom(int x) {
            int reached = 1 << x;
            for (int round = 0; round < size; round++) {
                int grown = withNeighbours(reached);
                if (grown == reached) {
                    return reached;
                }
                reached = grown;
            }
            return reached;
        }

        private int withNeighbours(int reached) {
            int grown = reached;
            for (int u = 0; u < size; u++) {
                if ((reached & (1 << u)) != 0) {
                    grown |= neighbours(u);
                }
            }
            return grown;
        }

        private int neighbours(int u) {
            int mask = 0;
            for (int y = 0; y < size; y++) {
                mask |= 1 << product(u, y);
                if (isInvertible()) {
                    mask |= 1 << divide(u, y);
                }
            }
            return mask;
        }

        private void refreshQuotients() {
            badColumn = NOT_FOUND;
            for (int y = size - 1; y >= 0; y--) {
                if (!invertColumn(y)) {
                    badColumn = y;
                }
            }
        }

        private boolean invertColumn(int y) {
            int values = 0;
            for (int x = 0; x < size; x++) {
                int value = products.get(x, y);
                quotients.put(value, y, x);
                values |= 1 << value;
            }
            return values == (1 << size) - 1;
        }

        /** y^-1 x y is the one permutation c with y c = x y. */
        private static int conjugate(int x, int y) {
            for (int c = 0; c < MAX_SIZE; c++) {
                if (sameProducts(y, c, x, y)) {
                    return c;
                }
            }
            return x;
        }

        private static boolean sameProducts(int p, int q, int r, int s) {
            for (int i = 0; i < POINTS; i++) {
                if (image(p, image(q, i)) != image(r, image(s, i))) {
                    return false;
                }
            }
            return true;
        }

        private static int image(int permutation, int point) {
            int index = POINTS * permutation + point;
            return index >= 0 && index < PERMUTATIONS.length ? PERMUTATIONS[index] : 0;
        }
    }

    /** The strands and the crossings, from the first one passed to the last. */
    private static final class Braid {
        private int strands = MIN_STRANDS;
        private int count = 0;
        private final int[] crossings = new int[MAX_CROSSINGS];

        boolean allows(int crossing) {
            return crossing != 0 && crossing > -strands && crossing < strands;
        }

        int at(int index) {
            return index >= 0 && index < count && index < MAX_CROSSINGS ? crossings[index] : 0;
        }

        void restart(int newStrands) {
            strands = newStrands;
            count = 0;
        }

        void append(int crossing) {
            if (count >= 0 && count < MAX_CROSSINGS) {
                crossings[count] = crossing;
                count++;
            }
        }

        /** Returns the removed crossing, 0 if there was none. */
        int removeLast() {
            int last = at(count - 1);
            if (count > 0) {
                count--;
            }
            return last;
        }

        void copyFrom(Braid other) {
            strands = other.strands;
            count = other.count;
            for (int i = 0; i < MAX_CROSSINGS; i++) {
                crossings[i] = other.crossings[i];
            }
        }
    }

    /** The modulus and a weight from 0 to modulus - 1 for each pair of elements. */
    private static final class Weights {
        private int modulus = MIN_MODULUS;
        private final Grid values = new Grid();

        boolean allows(int weight) {
            return weight >= 0 && weight < modulus;
        }

        int plus(int a, int b) {
            return a + b >= modulus ? a + b - modulus : a + b;
        }

        int minus(int a, int b) {
            return a < b ? a - b + modulus : a - b;
        }

        void restart(int newModulus) {
            modulus = newModulus;
            values.clear();
        }

        void copyFrom(Weights other) {
            modulus = other.modulus;
            values.copyFrom(other.values);
        }

        int addBoundary(Operation operation, int x, int amount) {
            int changed = 0;
            for (int u = 0; u < operation.size; u++) {
                for (int v = 0; v < operation.size; v++) {
                    int before = values.get(u, v);
                    int grown = u == x ? plus(before, amount) : before;
                    int after = operation.product(u, v) == x ? minus(grown, amount) : grown;
                    values.put(u, v, after);
                    if (after != before) {
                        changed++;
                    }
                }
            }
            return changed;
        }

        int firstUnclosed(Operation operation) {
            for (int x = 0; x < operation.size; x++) {
                for (int y = 0; y < operation.size; y++) {
                    for (int z = 0; z < operation.size; z++) {
                        if (!isClosedAt(operation, x, y, z)) {
                            return tripleCode(x, y, z);
                        }
                    }
                }
            }
            return NOT_FOUND;
        }

        private boolean isClosedAt(Operation operation, int x, int y, int z) {
            int first = plus(values.get(x, y), values.get(operation.product(x, y), z));
            int second = values.get(operation.product(x, z), operation.product(y, z));
            return first == plus(values.get(x, z), second);
        }
    }

    /** All that an edit can change. */
    private static final class State {
        private final Operation operation = new Operation();
        private final Braid braid = new Braid();
        private final Weights weights = new Weights();

        /** The dihedral quandle of size 3, the trefoil, and weights 0 modulo 3. */
        void becomeInitial() {
            operation.becomeLinear(3, -1, 2, 0);
            braid.restart(2);
            braid.append(1);
            braid.append(1);
            braid.append(1);
            weights.restart(3);
        }

        void copyFrom(State other) {
            operation.copyFrom(other.operation);
            braid.copyFrom(other.braid);
            weights.copyFrom(other.weights);
        }
    }

    /** The states before the last edits, the oldest first; all are made once and used again. */
    private static final class History {
        private final State[] past = new State[MAX_UNDO];
        private int count = 0;

        History() {
            for (int i = 0; i < MAX_UNDO; i++) {
                past[i] = new State();
            }
        }

        void remember(State present) {
            if (count == MAX_UNDO) {
                forgetOldest();
            }
            if (count >= 0 && count < MAX_UNDO && past[count] != null) {
                past[count].copyFrom(present);
                count++;
            }
        }

        void restoreLatest(State present) {
            int latest = count - 1;
            if (latest >= 0 && latest < MAX_UNDO && past[latest] != null) {
                present.copyFrom(past[latest]);
                count = latest;
            }
        }

        private void forgetOldest() {
            State oldest = past[0];
            for (int i = 1; i < MAX_UNDO; i++) {
                past[i - 1] = past[i];
            }
            past[MAX_UNDO - 1] = oldest;
            count = MAX_UNDO - 1;
        }
    }

    /** Goes through all assignments of colors in the order of their codes and passes the crossings of each. */
    private static final class Tracer {
        private final int[] top = new int[MAX_STRANDS];
        private final int[] colors = new int[MAX_STRANDS];
        private int total = 0;

        int countAll(State state) {
            int codes = startAtFirst(state);
            int found = 0;
            for (int code = 0; code < codes; code++) {
                if (closes(state)) {
                    found++;
                }
                advance(state);
            }
            return found;
        }

        int countWithTotal(State state, int wanted) {
            int codes = startAtFirst(state);
            int found = 0;
            for (int code = 0; code < codes; code++) {
                if (closes(state) && total == wanted) {
                    found++;
                }
                advance(state);
            }
            return found;
        }

        int firstFrom(State state, int from) {
            int codes = startAtFirst(state);
            for (int code = 0; code < codes; code++) {
                if (code >= from && closes(state)) {
                    return code;
                }
                advance(state);
            }
            return NOT_FOUND;
        }

        /** Returns the number of assignments. */
        private int startAtFirst(State state) {
            int codes = 1;
            for (int i = 0; i < MAX_STRANDS; i++) {
                top[i] = 0;
                if (i < state.braid.strands) {
                    codes *= state.operation.size;
                }
            }
            return codes;
        }

        private void advance(State state) {
            for (int i = Math.min(state.braid.strands, MAX_STRANDS) - 1; i >= 0; i--) {
                top[i]++;
                if (top[i] < state.operation.size) {
                    return;
                }
                top[i] = 0;
            }
        }

        /** Leaves the total weight of the crossings in its field. */
        private boolean closes(State state) {
            for (int i = 0; i < MAX_STRANDS; i++) {
                colors[i] = top[i];
            }
            total = 0;
            for (int i = 0; i < state.braid.count; i++) {
                pass(state, state.braid.at(i));
            }
            for (int i = 0; i < MAX_STRANDS; i++) {
                if (colors[i] != top[i]) {
                    return false;
                }
            }
            return true;
        }

        private void pass(State state, int crossing) {
            int right = Math.abs(crossing);
            if (right < 1 || right >= MAX_STRANDS) {
                return;
            }
            int a = colors[right - 1];
            int b = colors[right];
            if (crossing > 0) {
                total = state.weights.plus(total, state.weights.values.get(a, b));
                colors[right - 1] = b;
                colors[right] = state.operation.product(a, b);
            } else {
                int quotient = state.operation.divide(b, a);
                total = state.weights.minus(total, state.weights.values.get(quotient, a));
                colors[right - 1] = quotient;
                colors[right] = a;
            }
        }
    }

    /**
     * Finds all products of columns. In a finite group these are the whole generated group, so no
     * inverse is needed. A permutation is held as a number, three bits for each image.
     */
    private static final class InnerGroup {
        private static final int IMAGE_BITS = 3;
        private static final int IMAGE_MASK = 7;

        private final int[] members = new int[MAX_PERMUTATIONS];
        private final boolean[] isMember = new boolean[MAX_PERMUTATIONS];
        private int count = 0;

        /** Needs an invertible operation. */
        int orderFor(Operation operation) {
            for (int i = 0; i < MAX_PERMUTATIONS; i++) {
                isMember[i] = false;
            }
            count = 0;
            include(identity(operation.size), operation.size);
            for (int i = 0; i < count && i < MAX_PERMUTATIONS; i++) {
                for (int y = 0; y < operation.size; y++) {
                    include(followedByColumn(members[i], operation, y), operation.size);
                }
            }
            return count;
        }

        private void include(int permutation, int size) {
            int rank = rankOf(permutation, size);
            if (rank >= 0 && rank < MAX_PERMUTATIONS && !isMember[rank] && count < MAX_PERMUTATIONS) {
                isMember[rank] = true;
                members[count] = permutation;
                count++;
            }
        }

        private static int identity(int size) {
            int permutation = 0;
            for (int x = 0; x < size; x++) {
                permutation |= x << (IMAGE_BITS * x);
            }
            return permutation;
        }

        private static int followedByColumn(int permutation, Operation operation, int y) {
            int result = 0;
            for (int x = 0; x < operation.size; x++) {
                result |= operation.product(imageOf(permutation, x), y) << (IMAGE_BITS * x);
            }
            return result;
        }

        /** The index in lexicographic order: it tells permutations apart with no gap between the numbers. */
        private static int rankOf(int permutation, int size) {
            int rank = 0;
            int used = 0;
            for (int x = 0; x < size; x++) {
                int image = imageOf(permutation, x);
                int lowerUnused = image - Integer.bitCount(used & ((1 << image) - 1));
                rank = rank * (size - x) + lowerUnused;
                used |= 1 << image;
            }
            return rank;
        }

        private static int imageOf(int permutation, int x) {
            return (permutation >> (IMAGE_BITS * x)) & IMAGE_MASK;
        }
    }

    /** Tries all bijections of the elements. */
    private static final class Automorphisms {
        private final int[] images = new int[MAX_SIZE];

        int countFor(Operation operation) {
            return countExtensions(operation, images, 0, 0);
        }

        /** Counts the automorphisms with the images chosen for the elements below x; used is the mask of these. */
        private static int countExtensions(Operation operation, int[] images, int x, int used) {
            if (x >= operation.size || x >= images.length) {
                return isHomomorphism(operation, images) ? 1 : 0;
            }
            int count = 0;
            for (int image = 0; image < operation.size; image++) {
                if ((used & (1 << image)) == 0) {
                    images[x] = image;
                    count += countExtensions(operation, images, x + 1, used | (1 << image));
                }
            }
            return count;
        }

        private static boolean isHomomorphism(Operation operation, int[] images) {
            for (int x = 0; x < operation.size; x++) {
                for (int y = 0; y < operation.size; y++) {
                    int imageOfProduct = imageOf(images, operation.product(x, y));
                    if (imageOfProduct != operation.product(imageOf(images, x), imageOf(images, y))) {
                        return false;
                    }
                }
            }
            return true;
        }

        private static int imageOf(int[] images, int x) {
            return x >= 0 && x < images.length ? images[x] : 0;
        }
    }
}
