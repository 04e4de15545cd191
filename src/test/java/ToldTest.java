/** Promises 23 and 24: count and told. */
public final class ToldTest {
    private static final Check check = new Check("ToldTest");

    public static void main(String[] args) {
        count();
        countOfRefusedCalls();
        countOfOthers();
        told();
        toldAfterEachCall();
        check.end();
    }

    private static void count() {
        SmallFloats x = new SmallFloats();
        x.format(1, 3, 2, 3, true, 0);
        x.format(1, 2, 1, 1, true, 1);
        check.due("count(3)", 2, x.count(3));
        x.code(0, 1, 3, 0);
        check.counts(x, "after code", 1, 0, 0);
        x.cross(0, 13, 1, 0);
        check.counts(x, "after cross", 2, 0, 0);
        x.act(0, 2, 27, 27, 0);
        check.counts(x, "after act", 3, 1, 0);
        x.fused(0, 28, 0, 0, 0);
        check.counts(x, "after fused", 3, 1, 1);
        x.row(0, 0, 2);
        x.put(0, 0, 27);
        x.put(0, 1, 27);
        x.quantise(1, 0, 1, 0);
        check.counts(x, "after quantise", 5, 3, 1);
        x.sum(0, 0, false);
        check.counts(x, "after sum", 6, 4, 1);
        x.dot(0, 0, 2, true);
        check.counts(x, "after dot", 9, 7, 1);
        check.due("count(4)", SmallFloats.BAD, x.count(4));
        check.due("count(-1)", SmallFloats.BAD, x.count(-1));
    }

    /** A refused call leaves but one INVALID behind, whatever it met on its way. */
    private static void countOfRefusedCalls() {
        SmallFloats x = new SmallFloats();
        x.format(1, 3, 0, 3, true, 0);
        x.row(0, 0, 4);
        x.row(1, 0, 4);
        int[] first = {6, 5, 7, 7};
        int[] second = {6, 5, 0, 0};
        for (int i = 0; i < 4; i++) {
            x.put(0, i, first[i]);
            x.put(1, i, second[i]);
        }
        check.refused(x, "a stepwise dot", SmallFloats.INVALID, x.dot(0, 1, 0, true));
        check.counts(x, "after a refused stepwise dot", 0, 0, 1);
        check.due("an act afterwards", 7, x.act(0, 2, 6, 6, 0));
        check.counts(x, "after the act", 1, 1, 1);
        x.code(0, 1, 3, 9);
        x.act(0, 9, 0, 0, 0);
        check.counts(x, "after BAD ones", 1, 1, 1);
    }

    private static void countOfOthers() {
        SmallFloats x = new SmallFloats();
        x.format(1, 2, 1, 1, true, 0);
        x.table(0, 3, 0);
        x.lookup(0, 0);
        x.lookup(1, 5);
        x.next(0, 1, true);
        x.order(0, 0, 7);
        x.numbers(0, -5, 5);
        x.units(0, 6);
        check.counts(x, "after table and others", 0, 0, 0);
        x.code(0, 1, 1, 0);
        check.counts(x, "what lookup met is not counted later", 0, 0, 0);
    }

    private static void cleared(SmallFloats x, String call, long answer) {
        check.due("told() after " + call + " that answered " + answer, 0, x.told());
        check.refused(x, "row 9", SmallFloats.BAD, x.at(9, 9));
    }

    /** What an earlier call was refused by is forgotten by each call that is not refused. */
    private static void toldAfterEachCall() {
        SmallFloats x = new SmallFloats();
        check.refused(x, "row 9", SmallFloats.BAD, x.at(9, 9));
        cleared(x, "format", x.format(1, 2, 1, 1, true, 0));
        cleared(x, "format of one that is there", x.format(1, 2, 1, 1, true, 0));
        cleared(x, "about", x.about(0, 0));
        cleared(x, "kind", x.kind(0, 0, 0));
        cleared(x, "kind 1", x.kind(0, 8, 1));
        cleared(x, "units", x.units(0, 1));
        cleared(x, "units of no NUMBER", x.units(0, 7));
        cleared(x, "code", x.code(0, 1, 3, 0));
        cleared(x, "cross", x.cross(0, 1, 0, 0));
        cleared(x, "act", x.act(0, 3, 0, 0, 0));
        cleared(x, "fused", x.fused(0, 1, 1, 1, 0));
        cleared(x, "next", x.next(0, 5, true));
        cleared(x, "order", x.order(0, 7, 7));
        cleared(x, "numbers", x.numbers(0, 1, 0));
        cleared(x, "row", x.row(0, 0, 1));
        cleared(x, "put", x.put(0, 0, 1));
        cleared(x, "at", x.at(0, 0));
        cleared(x, "packed", x.packed(0, -1));
        cleared(x, "quantise", x.quantise(1, 0, 0, 0));
        cleared(x, "worst", x.worst(0, 1, 0));
        cleared(x, "sum", x.sum(0, 0, false));
        cleared(x, "dot", x.dot(0, 1, 0, true));
        cleared(x, "table", x.table(0, 0, 0));
        cleared(x, "lookup", x.lookup(0, 0));
    }

    private static void told() {
        SmallFloats x = new SmallFloats();
        check.due("told() at first", 0, x.told());
        x.at(0, 0);
        check.due("told()", SmallFloats.BAD, x.told());
        check.due("told() again", SmallFloats.BAD, x.told());
        x.count(0);
        check.due("told() after count(0)", SmallFloats.BAD, x.told());
        x.lookup(0, 0);
        check.due("told()", SmallFloats.STATE, x.told());
        x.count(9);
        check.due("told() after a count that is BAD", SmallFloats.STATE, x.told());
        x.format(1, 2, 1, 1, true, 2);
        check.due("told() after format", 0, x.told());
        x.act(0, 3, 0, 0, 0);
        check.due("told()", SmallFloats.INVALID, x.told());
        x.act(0, 3, 0, 1, 0);
        check.due("told() after act", 0, x.told());
        for (int bias = 2; bias <= 10; bias++) {
            x.format(1, 2, 1, bias, true, 2);
        }
        x.format(1, 2, 1, 11, true, 2);
        check.due("told()", SmallFloats.FULL, x.told());
        x.about(0, 3);
        check.due("told() after about that answers NONE", 0, x.told());
        check.due("BAD", -1, SmallFloats.BAD);
        check.due("STATE", -2, SmallFloats.STATE);
        check.due("FULL", -3, SmallFloats.FULL);
        check.due("INVALID", -4, SmallFloats.INVALID);
        check.due("NONE", -9, SmallFloats.NONE);
    }
}
