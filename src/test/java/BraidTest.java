/** Promises 19 to 24: setStrands, appendCrossing, removeCrossing, crossingCount, coloringCount, nextColoring. */
public final class BraidTest {
    public static void main(String[] args) {
        setStrands();
        appendCrossing();
        crossingRanges();
        removeCrossing();
        coloringsOfOneCrossing();
        coloringCount();
        coloringsNeedInvertibility();
        nextColoring();
        Check.end("BraidTest");
    }

    private static void setStrands() {
        QuandleColorings q = new QuandleColorings();
        Check.due("setStrands(4)", q.setStrands(4), 2);
        Check.due("setStrands(4): crossingCount()", q.crossingCount(), 0);
        q.appendCrossing(3);
        Check.due("setStrands(1)", q.setStrands(1), Check.BAD_ARGUMENT);
        Check.due("setStrands(5)", q.setStrands(5), Check.BAD_ARGUMENT);
        for (int far : Check.FAR) {
            Check.due("setStrands(" + far + ")", q.setStrands(far), Check.BAD_ARGUMENT);
        }
        Check.due("refused setStrands keeps the crossings", q.crossingCount(), 1);
        Check.due("setStrands(3)", q.setStrands(3), 4);
        Check.due("setStrands(2)", q.setStrands(2), 3);
        q.appendCrossing(1);
        Check.due("setStrands(2), the same number", q.setStrands(2), 2);
        Check.due("the same number removes the crossings too", q.crossingCount(), 0);
        Check.due("an edit that changes nothing", q.setStrands(2), 2);
        Check.due("an edit that changes nothing: undo()", q.undo(), 4);
    }

    private static void appendCrossing() {
        QuandleColorings q = new QuandleColorings();
        for (int count = 4; count <= 12; count++) {
            Check.due("appendCrossing", q.appendCrossing(count % 2 == 0 ? 1 : -1), count);
            Check.due("crossingCount()", q.crossingCount(), count);
        }
        Check.due("appendCrossing(1) as the 13th", q.appendCrossing(1), Check.LIMIT);
        Check.due("appendCrossing(-1) as the 13th", q.appendCrossing(-1), Check.LIMIT);
        Check.due("appendCrossing(0), full", q.appendCrossing(0), Check.BAD_ARGUMENT);
        Check.due("appendCrossing(2), full", q.appendCrossing(2), Check.BAD_ARGUMENT);
        Check.due("appendCrossing(-2), full", q.appendCrossing(-2), Check.BAD_ARGUMENT);
        Check.due("full: crossingCount()", q.crossingCount(), 12);
        q.removeCrossing();
        Check.due("appendCrossing(-1) after a removal", q.appendCrossing(-1), 12);
    }

    private static void crossingRanges() {
        for (int strands = 2; strands <= 4; strands++) {
            QuandleColorings q = new QuandleColorings();
            q.setStrands(strands);
            int count = 0;
            for (int crossing = -5; crossing <= 5; crossing++) {
                boolean good = crossing != 0 && Math.abs(crossing) < strands;
                count += good ? 1 : 0;
                String call = strands + " strands: appendCrossing(" + crossing + ")";
                Check.due(call, q.appendCrossing(crossing), good ? count : Check.BAD_ARGUMENT);
            }
            for (int far : Check.FAR) {
                Check.due("appendCrossing(" + far + ")", q.appendCrossing(far), Check.BAD_ARGUMENT);
            }
            Check.due("crossingCount()", q.crossingCount(), count);
        }
    }

    private static void removeCrossing() {
        QuandleColorings q = new QuandleColorings();
        q.setStrands(4);
        Check.due("removeCrossing(), none", q.removeCrossing(), Check.NONE);
        q.appendCrossing(2);
        q.appendCrossing(-3);
        q.appendCrossing(1);
        q.appendCrossing(-1);
        Check.due("removeCrossing() of -1", q.removeCrossing(), 1);
        Check.due("removeCrossing() of 1", q.removeCrossing(), 1);
        Check.due("removeCrossing() of -3", q.removeCrossing(), 3);
        Check.due("removeCrossing() of 2", q.removeCrossing(), 2);
        Check.due("crossingCount()", q.crossingCount(), 0);
        Check.due("removeCrossing(), none left", q.removeCrossing(), Check.NONE);
        Check.due("a refused removal is no edit: undo()", q.undo(), 4);
        Check.due("undone removal: removeCrossing()", q.removeCrossing(), 2);
    }

    private static void coloringsOfOneCrossing() {
        QuandleColorings q = new QuandleColorings();
        // b = a and a * b = b: only equal colors, as x * x = x.
        q.setStrands(2);
        q.appendCrossing(1);
        Check.due("dihedral, one crossing: coloringCount()", q.coloringCount(), 3);
        q.setStrands(2);
        q.appendCrossing(-1);
        Check.due("dihedral, one negative crossing: coloringCount()", q.coloringCount(), 3);
        q.loadCyclicRack(3);
        Check.due("cyclic, one negative crossing: coloringCount()", q.coloringCount(), 0);
        // A crossing and its inverse: every assignment is a coloring.
        q.appendCrossing(1);
        Check.due("cyclic, -1 and 1: coloringCount()", q.coloringCount(), 9);
        q.loadAlexander(5, 2);
        Check.due("Alexander, -1 and 1: coloringCount()", q.coloringCount(), 25);
        q.setStrands(3);
        q.appendCrossing(2);
        // Position 0 is free, 1 and 2 are equal: (c, d, d).
        Check.due("crossing 2 of 3 strands: coloringCount()", q.coloringCount(), 25);
        Check.due("crossing 2 of 3 strands: nextColoring(1)", q.nextColoring(1), 6);
        q.setStrands(3);
        q.appendCrossing(1);
        // (d, d, c).
        Check.due("crossing 1 of 3 strands: nextColoring(5)", q.nextColoring(5), 30);
        q.setStrands(4);
        q.appendCrossing(-3);
        // (c, d, e, e).
        Check.due("crossing -3 of 4 strands: coloringCount()", q.coloringCount(), 125);
        Check.due("crossing -3 of 4 strands: nextColoring(26)", q.nextColoring(26), 31);
    }

    private static void coloringCount() {
        QuandleColorings q = new QuandleColorings();
        Check.due("trefoil, dihedral 3: coloringCount()", q.coloringCount(), 9);
        q.loadDihedral(6);
        Check.due("trefoil, dihedral 6: coloringCount()", q.coloringCount(), 18);
        q.loadTrivial(6);
        q.setStrands(4);
        Check.due("no crossing, 4 strands: coloringCount()", q.coloringCount(), 1296);
        q.appendCrossing(1);
        q.appendCrossing(2);
        q.appendCrossing(3);
        // One component: one color.
        Check.due("one component, trivial 6: coloringCount()", q.coloringCount(), 6);
        q.loadTrivial(1);
        Check.due("size 1: coloringCount()", q.coloringCount(), 1);
        q.loadDihedral(3);
        setBraid(q, 2, 1, 1);
        Check.due("Hopf link, dihedral 3: coloringCount()", q.coloringCount(), 3);
        q.loadDihedral(4);
        Check.due("Hopf link, dihedral 4: coloringCount()", q.coloringCount(), 8);
        setBraid(q, 3, 1, -2, 1, -2);
        q.loadDihedral(5);
        Check.due("figure eight, dihedral 5: coloringCount()", q.coloringCount(), 25);
        q.loadDihedral(3);
        Check.due("figure eight, dihedral 3: coloringCount()", q.coloringCount(), 3);
        // The order of the operands of a crossing is seen on a quandle whose dual is another one.
        orderOfOperands(q);
    }

    private static void orderOfOperands(QuandleColorings q) {
        q.loadTrivial(3);
        // Only the column of 0 moves: 1 <-> 2.
        Check.setTable(q, 0, 0, 0, 2, 1, 1, 1, 2, 2);
        setBraid(q, 2, 1, 1);
        // a, b -> b, a * b -> a * b, b * (a * b): colorings need a * b = a and b * a = b.
        Check.due("Hopf link, not connected: coloringCount()", q.coloringCount(), 5);
        Check.due("Hopf link, not connected: nextColoring(1)", q.nextColoring(1), 4);
        q.loadTrivial(3);
        // Not distributive: column 0 is 0 -> 1 -> 2 -> 0, the others are the identity.
        Check.setTable(q, 1, 0, 0, 2, 1, 1, 0, 2, 2);
        setBraid(q, 2, -1);
        // b / a = a and a = b: only a = b with a * a = a.
        Check.due("one negative crossing: coloringCount()", q.coloringCount(), 2);
        setBraid(q, 2, -1, -1);
        // a, b -> b / a, a -> a / (b / a), b / a: needs b / a = b and a / b = a.
        Check.due("two negative crossings: coloringCount()", q.coloringCount(), 4);
        Check.due("two negative crossings: nextColoring(0)", q.nextColoring(0), 4);
    }

    private static void setBraid(QuandleColorings q, int strands, int... crossings) {
        q.setStrands(strands);
        for (int crossing : crossings) {
            q.appendCrossing(crossing);
        }
    }

    private static void coloringsNeedInvertibility() {
        QuandleColorings q = new QuandleColorings();
        q.setEntry(1, 1, 0);
        Check.due("not invertible, no negative crossing: coloringCount()", q.coloringCount(), Check.BAD_STATE);
        Check.due("not invertible: nextColoring(0)", q.nextColoring(0), Check.BAD_STATE);
        Check.due("not invertible: nextColoring(1000)", q.nextColoring(1000), Check.BAD_STATE);
        Check.due("not invertible: nextColoring(-1)", q.nextColoring(-1), Check.BAD_ARGUMENT);
        q.setStrands(3);
        Check.due("not invertible, no crossing: coloringCount()", q.coloringCount(), Check.BAD_STATE);
        Check.due("not invertible, no crossing: nextColoring(0)", q.nextColoring(0), Check.BAD_STATE);
    }

    private static void nextColoring() {
        QuandleColorings q = new QuandleColorings();
        for (int code = 0; code < 9; code++) {
            Check.due("trefoil, dihedral 3: nextColoring(" + code + ")", q.nextColoring(code), code);
        }
        Check.due("nextColoring(9)", q.nextColoring(9), Check.NONE);
        Check.due("nextColoring(MAX)", q.nextColoring(Integer.MAX_VALUE), Check.NONE);
        Check.due("nextColoring(-1)", q.nextColoring(-1), Check.BAD_ARGUMENT);
        Check.due("nextColoring(MIN)", q.nextColoring(Integer.MIN_VALUE), Check.BAD_ARGUMENT);
        q.loadTrivial(4);
        // Equal colors (c, c) have the codes 0, 5, 10, 15.
        int[] due = {0, 5, 5, 5, 5, 5, 10, 10, 10, 10, 10, 15, 15, 15, 15, 15, Check.NONE};
        for (int from = 0; from < due.length; from++) {
            Check.due("trefoil, trivial 4: nextColoring(" + from + ")", q.nextColoring(from), due[from]);
        }
        q.loadTrivial(6);
        q.setStrands(4);
        Check.due("nextColoring(1295)", q.nextColoring(1295), 1295);
        Check.due("nextColoring(1296)", q.nextColoring(1296), Check.NONE);
        q.loadCyclicRack(2);
        q.appendCrossing(1);
        Check.due("no coloring at all: nextColoring(0)", q.nextColoring(0), Check.NONE);
        q.loadTrivial(1);
        Check.due("size 1: nextColoring(0)", q.nextColoring(0), 0);
        Check.due("size 1: nextColoring(1)", q.nextColoring(1), Check.NONE);
    }
}
