/** Counts and prints the answers that are not as due. */
final class Check {
    static final int BAD_ARGUMENT = -1;
    static final int BAD_STATE = -2;
    static final int LIMIT = -3;
    static final int NONE = -4;

    /** Values that are far outside every range of the document, or just at the ends of int. */
    static final int[] FAR = {Integer.MIN_VALUE, Integer.MIN_VALUE + 1, -1000, 1000, Integer.MAX_VALUE - 1, Integer.MAX_VALUE};

    private static int checks = 0;
    private static int wrong = 0;
    /** Stands before each printed line: which sentence of the document is being tested. */
    private static volatile String context = "";

    private static final long LONGEST_MILLISECONDS = 300_000;

    static {
        watch();
    }

    private Check() {
    }

    /** A call that does not end is a wrong answer, too. */
    private static void watch() {
        Thread watch = new Thread(() -> {
            try {
                Thread.sleep(LONGEST_MILLISECONDS);
            } catch (InterruptedException e) {
                return;
            }
            System.out.println(context + "the test does not end");
            Runtime.getRuntime().halt(1);
        });
        watch.setDaemon(true);
        watch.start();
    }

    static void within(String newContext) {
        context = newContext;
    }

    static int count() {
        return checks;
    }

    static void due(String call, int got, int want) {
        checks++;
        if (got != want) {
            wrong++;
            System.out.println(context + call + " answered " + got + ", due is " + want);
        }
    }

    static void holds(String what, boolean truth) {
        checks++;
        if (!truth) {
            wrong++;
            System.out.println(context + "does not hold: " + what);
        }
    }

    /** The table is given row by row: x * 0, x * 1, ... for x = 0, then for x = 1, ... */
    static void dueTable(String what, QuandleColorings q, int size, int... table) {
        due(what + ": size()", q.size(), size);
        for (int x = 0; x < size; x++) {
            for (int y = 0; y < size; y++) {
                due(what + ": entry(" + x + ", " + y + ")", q.entry(x, y), table[size * x + y]);
            }
        }
    }

    static void dueWeights(String what, QuandleColorings q, int size, int... weights) {
        for (int x = 0; x < size; x++) {
            for (int y = 0; y < size; y++) {
                due(what + ": weight(" + x + ", " + y + ")", q.weight(x, y), weights[size * x + y]);
            }
        }
    }

    /** Makes the table's entries the given ones, row by row, by setEntry. */
    static void setTable(QuandleColorings q, int... table) {
        int size = q.size();
        for (int x = 0; x < size; x++) {
            for (int y = 0; y < size; y++) {
                int previous = q.entry(x, y);
                due("setEntry(" + x + ", " + y + ")", q.setEntry(x, y, table[size * x + y]), previous);
            }
        }
    }

    static void end(String name) {
        System.out.println(name + ": " + checks + " checks, " + wrong + " wrong");
        if (wrong != 0) {
            System.exit(1);
        }
    }
}
