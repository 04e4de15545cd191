/** Promises 10 to 12: next, order, numbers. */
public final class NeighbourTest {
    private static final Check check = new Check("NeighbourTest");
    private static SmallFloats x;

    public static void main(String[] args) {
        x = new SmallFloats();
        x.format(1, 2, 1, 1, true, 0);
        x.format(0, 2, 1, 1, true, 1);
        x.format(1, 2, 1, 1, false, 2);
        next();
        order();
        numbers();
        check.end();
    }

    /** Going up from the least NUMBER and down from GREAT passes each ZERO but once. */
    private static void next() {
        int none = SmallFloats.NONE;
        int[] up = {1, 2, 3, 4, 5, none, -1, -1, 1, 8, 9, 10, 11, 12, -1, -1};
        int[] down = {9, 0, 1, 2, 3, 4, -1, -1, 9, 10, 11, 12, 13, none, -1, -1};
        for (int code = 0; code < 16; code++) {
            int reason = up[code] == -1 ? SmallFloats.BAD : 0;
            check.due("next(0, " + code + ", true)", up[code], x.next(0, code, true));
            check.due("told()", reason, x.told());
            check.due("next(0, " + code + ", false)", down[code], x.next(0, code, false));
            check.due("told()", reason, x.told());
        }
        check.due("next below ZERO without a sign", none, x.next(1, 0, false));
        check.due("next above ZERO without a sign", 1, x.next(1, 0, true));
        check.due("next below the least one without a sign", 0, x.next(1, 1, false));
        check.due("next above GREAT", none, x.next(1, 6, true));
        check.refused(x, "next of NONE", SmallFloats.BAD, x.next(1, 7, true));
        check.due("next above GREAT of TOP 2", none, x.next(2, 7, true));
        check.due("next below minus GREAT of TOP 2", none, x.next(2, 15, false));
        check.refused(x, "next of code 16", SmallFloats.BAD, x.next(0, 16, true));
        check.refused(x, "next of code -1", SmallFloats.BAD, x.next(0, -1, true));
        check.refused(x, "next of format 3", SmallFloats.BAD, x.next(3, 0, true));
    }

    private static void order() {
        int[] rising = {14, 13, 12, 11, 10, 9, 0, 1, 2, 3, 4, 5, 6};
        for (int i = 0; i < rising.length; i++) {
            for (int j = 0; j < rising.length; j++) {
                String call = "order(0, " + rising[i] + ", " + rising[j] + ")";
                check.due(call, Integer.compare(i, j), x.order(0, rising[i], rising[j]));
            }
            check.due("order with NONE", 2, x.order(0, rising[i], 7));
            check.due("order of NONE", 2, x.order(0, 15, rising[i]));
        }
        check.due("order of both ZEROS", 0, x.order(0, 0, 8));
        check.due("order of both ZEROS", 0, x.order(0, 8, 0));
        check.due("order of minus ZERO", -1, x.order(0, 8, 1));
        check.due("order of minus ZERO", 1, x.order(0, 8, 9));
        check.due("order of two NONE", 2, x.order(1, 7, 7));
        check.due("told()", 0, x.told());
        check.refused(x, "order of code 16", SmallFloats.BAD, x.order(0, 16, 7));
        check.refused(x, "order of code -1", SmallFloats.BAD, x.order(0, 0, -1));
        check.refused(x, "order of format 3", SmallFloats.BAD, x.order(3, 0, 0));
    }

    /** Format 0 has 0, 2, 4, 6, 8, 12 UNITS of both signs, format 2 has 0, 3, 4, 6, 8, 12, 16, 24. */
    private static void numbers() {
        check.due("both ZEROS", 2, x.numbers(0, 0, 0));
        check.due("the ZERO without a sign", 1, x.numbers(1, 0, 0));
        check.due("above ZERO", 5, x.numbers(0, 1, 100));
        check.due("below ZERO", 5, x.numbers(0, -100, -1));
        check.due("the ends count", 5, x.numbers(0, 2, 12));
        check.due("the ends below ZERO count", 3, x.numbers(0, -8, -4));
        check.due("around ZERO", 5, x.numbers(0, -2, 4));
        check.due("between two", 0, x.numbers(0, 9, 11));
        check.due("low above high", 0, x.numbers(0, 4, 2));
        check.due("all", 12, x.numbers(0, Long.MIN_VALUE, Long.MAX_VALUE));
        check.due("all without a sign", 7, x.numbers(1, Long.MIN_VALUE, Long.MAX_VALUE));
        check.due("all of TOP 2", 16, x.numbers(2, -24, 24));
        check.due("without subnormals", 2, x.numbers(2, 1, 4));
        check.due("far above", 0, x.numbers(0, Long.MAX_VALUE, Long.MAX_VALUE));
        check.due("far below", 0, x.numbers(0, Long.MIN_VALUE, Long.MIN_VALUE));
        check.due("far turned", 0, x.numbers(0, Long.MAX_VALUE, Long.MIN_VALUE));
        SmallFloats largest = new SmallFloats();
        largest.format(1, 4, 5, 0, true, 2);
        check.due("all of the largest format", 1024, largest.numbers(0, Long.MIN_VALUE, Long.MAX_VALUE));
        check.due("all but the GREAT ones", 1022, largest.numbers(0, 1 - (63 << 15), (63 << 15) - 1));
        check.due("told()", 0, x.told());
        check.refused(x, "numbers of format 3", SmallFloats.BAD, x.numbers(3, 0, 0));
        check.refused(x, "numbers of format -1", SmallFloats.BAD, x.numbers(-1, 0, 0));
    }
}
