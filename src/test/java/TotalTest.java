/** Promises 19 and 20: sum and dot. */
public final class TotalTest {
    private static final Check check = new Check("TotalTest");
    // Codes of the format 1, 3, 2, bias 3, subnormals, TOP 0.
    private static final int ONE = 12, TWO = 16, GREAT = 27, ENDLESS = 28, NONE = 30, MINUS = 32;
    private static SmallFloats x;

    public static void main(String[] args) {
        exactSum();
        stepwiseSum();
        sumOfOthers();
        exactDot();
        stepwiseDot();
        dotOfOthers();
        withoutNone();
        refused();
        check.end();
    }

    private static void makeFormats() {
        x = new SmallFloats();
        x.format(1, 3, 2, 3, true, 0);
        x.format(1, 2, 1, 1, true, 1);
        x.format(1, 3, 0, 3, true, 0);
        x.format(0, 2, 1, 1, true, 2);
    }

    private static void fill(int row, int format, int... codes) {
        x.row(row, format, codes.length);
        for (int i = 0; i < codes.length; i++) {
            x.put(row, i, codes[i]);
        }
    }

    private static void sum(boolean stepwise, int... want) {
        for (int mode = 0; mode < want.length; mode++) {
            check.due("sum(0, " + mode + ", " + stepwise + ")", want[mode], x.sum(0, mode, stepwise));
            check.due("told()", 0, x.told());
        }
    }

    private static void dot(boolean stepwise, int... want) {
        for (int mode = 0; mode < want.length; mode++) {
            check.due("dot(0, 1, " + mode + ", " + stepwise + ")", want[mode], x.dot(0, 1, mode, stepwise));
            check.due("told()", 0, x.told());
        }
    }

    private static void exactSum() {
        makeFormats();
        fill(0, 0);
        sum(false, 0, 0, 0, 0, 0, 0);
        fill(0, 0, MINUS);
        sum(false, 0, 0, 0, MINUS, 0, 0);
        fill(0, 0, 0, 0);
        sum(false, 0, 0, 0, MINUS, 0, 0);
        fill(0, 0, ONE, TWO, ONE + MINUS, TWO + MINUS);
        sum(false, 0, 0, 0, MINUS, 0, 0);
        fill(0, 0, GREAT, GREAT, GREAT + MINUS, GREAT + MINUS, ONE + MINUS);
        sum(false, 44, 44, 44, 44, 44, 44);
        check.counts(x, "after exact ones", 0, 0, 0);
        fill(0, 0, 1, TWO, 1, 1, 1);
        sum(false, 16, 17, 16, 16, 17, 17);
        check.counts(x, "after inexact ones", 6, 0, 0);
        fill(0, 0, GREAT, GREAT);
        sum(false, 28, 28, 27, 27, 28, 27);
        check.counts(x, "after ones above GREAT", 12, 6, 0);
    }

    private static void stepwiseSum() {
        makeFormats();
        fill(0, 0);
        sum(true, 0, 0, 0, 0, 0, 0);
        fill(0, 0, MINUS);
        sum(true, 0, 0, 0, MINUS, 0, 0);
        fill(0, 0, 0);
        sum(true, 0, 0, 0, 0, 0, 0);
        check.counts(x, "after exact ones", 0, 0, 0);
        fill(0, 0, TWO, 1, 1, 1, 1);
        sum(true, 16, 16, 16, 16, 20, 17);
        check.counts(x, "after inexact ones", 24, 0, 0);
        fill(0, 0, GREAT, GREAT, GREAT + MINUS, GREAT + MINUS);
        sum(true, 28, 28, 59, 59, 28, 59);
        check.counts(x, "after ones above GREAT", 30, 6, 0);
    }

    private static void sumOfOthers() {
        makeFormats();
        int below = ENDLESS + MINUS;
        fill(0, 0, GREAT, ENDLESS, below - 1);
        sum(false, ENDLESS);
        sum(true, ENDLESS);
        fill(0, 0, ONE, below, below);
        sum(false, below);
        sum(true, below);
        fill(0, 0, ONE, ENDLESS, 63, below);
        sum(false, NONE);
        sum(true, NONE);
        check.counts(x, "after a NONE", 0, 0, 0);
        fill(0, 0, below, ONE, ENDLESS, 63);
        sum(false, NONE);
        check.counts(x, "after an INVALID", 0, 0, 1);
        sum(true, NONE);
        check.counts(x, "after an INVALID", 0, 0, 2);
        fill(0, 1, 7, 1);
        sum(false, 7);
        sum(true, 7);
        check.counts(x, "after the NONE of TOP 1", 0, 0, 2);
        fill(0, 1, 6, 6);
        sum(false, 7, 7, 6, 6, 7, 7);
    }

    private static void exactDot() {
        makeFormats();
        fill(0, 0);
        fill(1, 0, ONE, TWO);
        dot(false, 0, 0, 0, 0, 0, 0);
        fill(0, 0, TWO, ONE + MINUS, 20);
        dot(false, 0, 0, 0, MINUS, 0, 0);
        fill(0, 0, MINUS);
        dot(false, 0, 0, 0, MINUS, 0, 0);
        fill(0, 0, TWO + MINUS, TWO, ONE, ONE, ONE);
        dot(false, TWO, TWO, TWO, TWO, TWO, TWO);
        fill(0, 0, 13, 13);
        fill(1, 0, 13, 14 + MINUS);
        dot(false, 37, 37, 37, 37, 37, 37);
        check.counts(x, "after exact ones", 0, 0, 0);
        fill(0, 0, 13, ONE + MINUS);
        fill(1, 0, 13 + MINUS, TWO);
        dot(false, 51, 51, 51, 52, 51, 51);
        fill(0, 0, GREAT, GREAT);
        fill(1, 0, GREAT, ONE);
        dot(false, 28, 28, 27, 27, 28, 27);
        check.counts(x, "after inexact ones", 12, 6, 0);
        fill(1, 0, GREAT, GREAT + MINUS);
        dot(false, 0, 0, 0, MINUS, 0, 0);
        check.due("dot(0, 0)", ENDLESS, x.dot(0, 0, 0, false));
    }

    private static void stepwiseDot() {
        makeFormats();
        fill(0, 0);
        fill(1, 0, ONE, TWO);
        dot(true, 0, 0, 0, 0, 0, 0);
        fill(0, 0, MINUS);
        dot(true, 0, 0, 0, MINUS, 0, 0);
        fill(0, 0, GREAT, GREAT, GREAT);
        fill(1, 0, GREAT, GREAT + MINUS);
        check.due("by IN", 0, x.dot(0, 1, 2, true));
        check.counts(x, "after IN", 2, 2, 0);
        check.due("by EVEN", NONE, x.dot(0, 1, 0, true));
        check.counts(x, "after EVEN", 4, 4, 1);
        fill(0, 0, 13, 13);
        fill(1, 0, 13, 14 + MINUS);
        // 25/16 and -15/8: 3/2 and -2 by EVEN, 3/2 and -7/4 by IN.
        dot(true, 40, 40, 36, 40, 0, 0);
        check.counts(x, "after all modes", 16, 4, 1);
    }

    private static void dotOfOthers() {
        makeFormats();
        int below = ENDLESS + MINUS;
        fill(0, 0, ONE, ENDLESS, ONE);
        fill(1, 0, TWO, ONE + MINUS, below, 63);
        dot(false, below);
        dot(true, below);
        fill(1, 0, 63, 0);
        dot(false, NONE);
        check.counts(x, "after a NONE ahead of an INVALID", 0, 0, 0);
        dot(true, NONE);
        check.counts(x, "stepwise each PRODUCT is met", 0, 0, 1);
        fill(1, 0, ONE, 0, 63);
        dot(false, NONE);
        check.counts(x, "after an INVALID ahead of a NONE", 0, 0, 2);
        fill(1, 0, ONE, ONE, below);
        dot(false, NONE);
        dot(true, NONE);
        check.counts(x, "after two ENDLESS ones", 0, 0, 4);
    }

    /** Format 2 has ENDLESS ones, 7 and 15, but no NONE. */
    private static void withoutNone() {
        makeFormats();
        fill(0, 2, 6, 6, 7, 15, 15);
        check.refused(x, "sum", SmallFloats.INVALID, x.sum(0, 0, false));
        check.counts(x, "after sum", 0, 0, 1);
        check.refused(x, "stepwise sum", SmallFloats.INVALID, x.sum(0, 0, true));
        check.counts(x, "after the stepwise sum", 0, 0, 2);
        fill(1, 2, 6, 6, 0, 0);
        check.refused(x, "dot", SmallFloats.INVALID, x.dot(0, 1, 0, false));
        check.refused(x, "stepwise dot", SmallFloats.INVALID, x.dot(0, 1, 0, true));
        check.counts(x, "after both", 0, 0, 4);
        fill(1, 2, 6, 6);
        check.due("dot", 7, x.dot(0, 1, 0, false));
        check.counts(x, "after one above GREAT", 1, 1, 4);
        fill(0, 3, 7, 7);
        fill(1, 3, 7, 7);
        check.due("a sum without a sign", 7, x.sum(0, 3, false));
        check.due("a dot without a sign", 7, x.dot(0, 1, 3, true));
        check.counts(x, "after TOP 2", 5, 5, 4);
    }

    private static void refused() {
        makeFormats();
        fill(0, 0, ONE);
        fill(1, 1, 2);
        check.refused(x, "sum of no row", SmallFloats.BAD, x.sum(2, 0, false));
        check.refused(x, "sum of row 4", SmallFloats.BAD, x.sum(4, 0, true));
        check.refused(x, "sum by mode 6", SmallFloats.BAD, x.sum(0, 6, false));
        check.refused(x, "sum by mode -1", SmallFloats.BAD, x.sum(0, -1, true));
        check.refused(x, "dot of two formats", SmallFloats.STATE, x.dot(0, 1, 0, false));
        check.refused(x, "dot of two formats", SmallFloats.STATE, x.dot(1, 0, 0, true));
        check.refused(x, "BAD ahead of STATE", SmallFloats.BAD, x.dot(0, 1, 6, false));
        check.refused(x, "dot with no row", SmallFloats.BAD, x.dot(0, 2, 0, false));
        check.refused(x, "dot of no row", SmallFloats.BAD, x.dot(3, 0, 0, false));
        check.refused(x, "dot with row -1", SmallFloats.BAD, x.dot(0, -1, 0, false));
        check.counts(x, "after refused ones", 0, 0, 0);
    }
}
