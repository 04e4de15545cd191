/** Promises 10 to 12 sentence by sentence: next, order, numbers at ZERO, GREAT and the ends of each range. */
public final class NumberBoundsTest {
    private static final Check check = new Check("NumberBoundsTest");
    private static final int NONE = SmallFloats.NONE;
    // Numbers of makeFormats(); SIGNED has 0, 2, 4, 6, 8, 12 UNITS (GREAT is code 5), then ENDLESS 6 and NONE 7.
    private static final int SIGNED = 0, UNSIGNED = 1, ONE_TOP = 2, PLAIN = 3, SMALLEST = 4, NO_SUBNORMALS = 5;
    private static final int MINUS = 8;
    private static SmallFloats x;

    public static void main(String[] args) {
        nextUp();
        nextDown();
        nextOfZeros();
        nextNeverMinusZero();
        nextIsMinusZero();
        nextBeyondTheLast();
        nextOfNoNumber();
        orderOfCodes();
        orderOfZeros();
        orderOfNone();
        numbersAtBothEnds();
        numbersOfZeros();
        numbersBelowZero();
        numbersAtGreat();
        numbersFarAway();
        numbersOfAnEmptyRange();
        numbersOneByOne();
        check.end();
    }

    private static void makeFormats() {
        x = new SmallFloats();
        x.format(1, 2, 1, 1, true, 0);
        x.format(0, 2, 1, 1, true, 0);
        x.format(1, 2, 1, 1, true, 1);
        x.format(1, 2, 1, 1, true, 2);
        x.format(1, 1, 1, 0, true, 0);
        x.format(1, 2, 1, 1, false, 2);
    }

    private static void next(int format, int code, boolean up, int want) {
        check.fine(x, "next(" + format + ", " + code + ", " + up + ")", want, x.next(format, code, up));
    }

    private static void noNext(int format, int code) {
        for (int way = 0; way < 2; way++) {
            String call = "next(" + format + ", " + code + ", " + (way == 0) + ")";
            check.refused(x, call, SmallFloats.BAD, x.next(format, code, way == 0));
        }
    }

    private static void order(int a, int b, int want) {
        check.fine(x, "order(0, " + a + ", " + b + ")", want, x.order(SIGNED, a, b));
        int turned = want == 2 ? 2 : -want;
        check.fine(x, "order(0, " + b + ", " + a + ")", turned, x.order(SIGNED, b, a));
    }

    private static void numbers(int format, long low, long high, int want) {
        String call = "numbers(" + format + ", " + low + ", " + high + ")";
        check.fine(x, call, want, x.numbers(format, low, high));
    }

    private static void nextUp() {
        makeFormats();
        check.sentence("Promise 10", "The next NUMBER above one");
        next(SIGNED, 1, true, 2);
        next(SIGNED, 4, true, 5);
        next(SIGNED, MINUS + 5, true, MINUS + 4);
        next(SIGNED, MINUS + 2, true, MINUS + 1);
        next(UNSIGNED, 0, true, 1);
        next(PLAIN, 6, true, 7);
        next(NO_SUBNORMALS, 0, true, 1);
        next(NO_SUBNORMALS, 1, true, 2);
    }

    private static void nextDown() {
        makeFormats();
        check.sentence("Promise 10", "(below)");
        next(SIGNED, 5, false, 4);
        next(SIGNED, 2, false, 1);
        next(SIGNED, MINUS + 1, false, MINUS + 2);
        next(SIGNED, MINUS + 4, false, MINUS + 5);
        next(PLAIN, MINUS + 6, false, MINUS + 7);
        next(ONE_TOP, 6, false, 5);
    }

    private static void nextOfZeros() {
        makeFormats();
        check.sentence("Promise 10", "of both ZEROS the same");
        for (int format : new int[] {SIGNED, ONE_TOP, PLAIN, NO_SUBNORMALS}) {
            next(format, 0, true, 1);
            next(format, MINUS, true, 1);
            next(format, 0, false, MINUS + 1);
            next(format, MINUS, false, MINUS + 1);
        }
    }

    private static void nextNeverMinusZero() {
        makeFormats();
        check.sentence("Promise 10", "never minus ZERO");
        next(SIGNED, 1, false, 0);
        next(PLAIN, 1, false, 0);
        next(SMALLEST, 1, false, 0);
        next(UNSIGNED, 1, false, 0);
    }

    private static void nextIsMinusZero() {
        makeFormats();
        check.sentence("Promise 10", "but a ZERO that is asked for from below 0 is minus ZERO");
        next(SIGNED, MINUS + 1, true, MINUS);
        next(ONE_TOP, MINUS + 1, true, MINUS);
        next(NO_SUBNORMALS, MINUS + 1, true, MINUS);
        next(SMALLEST, 5, true, 4);
    }

    private static void nextBeyondTheLast() {
        makeFormats();
        check.sentence("Promise 10", "NONE: there is none");
        next(SIGNED, 5, true, NONE);
        next(SIGNED, MINUS + 5, false, NONE);
        next(ONE_TOP, 6, true, NONE);
        next(ONE_TOP, MINUS + 6, false, NONE);
        next(PLAIN, 7, true, NONE);
        next(PLAIN, MINUS + 7, false, NONE);
        next(SMALLEST, 1, true, NONE);
        next(SMALLEST, 5, false, NONE);
        next(UNSIGNED, 0, false, NONE);
        next(UNSIGNED, 5, true, NONE);
        check.counts(x, "after next", 0, 0, 0);
    }

    private static void nextOfNoNumber() {
        makeFormats();
        check.sentence("Promise 10", "BAD: no NUMBER, too");
        noNext(SIGNED, 6);
        noNext(SIGNED, 7);
        noNext(SIGNED, MINUS + 6);
        noNext(SIGNED, MINUS + 7);
        noNext(UNSIGNED, 6);
        noNext(ONE_TOP, 7);
        noNext(ONE_TOP, MINUS + 7);
        next(SIGNED, 0, true, 1);
    }

    private static void orderOfCodes() {
        makeFormats();
        check.sentence("Promise 11", "Two CODES by what they are: -1, 0, 1");
        int[] rising = {14, 13, 12, 9, 0, 1, 4, 5, 6};
        for (int i = 0; i < rising.length; i++) {
            order(rising[i], rising[i], 0);
            for (int j = i + 1; j < rising.length; j++) {
                order(rising[i], rising[j], -1);
            }
        }
        check.counts(x, "after order", 0, 0, 0);
    }

    private static void orderOfZeros() {
        makeFormats();
        check.sentence("Promise 11", "both ZEROS alike");
        order(0, MINUS, 0);
        order(MINUS, MINUS, 0);
        order(MINUS, 1, -1);
        order(MINUS + 1, MINUS, -1);
    }

    private static void orderOfNone() {
        makeFormats();
        check.sentence("Promise 11", "2: one is NONE");
        order(7, 0, 2);
        order(15, 0, 2);
        order(7, 7, 2);
        order(7, 15, 2);
        order(7, 6, 2);
        order(14, 15, 2);
        order(6, 5, 1);
        check.counts(x, "after order", 0, 0, 0);
    }

    private static void numbersAtBothEnds() {
        makeFormats();
        check.sentence("Promise 12", "from low to high UNITS (both ends, too)");
        numbers(SIGNED, 2, 8, 4);
        numbers(SIGNED, 3, 8, 3);
        numbers(SIGNED, 2, 7, 3);
        numbers(SIGNED, 3, 7, 2);
        numbers(SIGNED, 6, 6, 1);
        numbers(SIGNED, 7, 7, 0);
        numbers(SIGNED, 9, 11, 0);
        numbers(SIGNED, 8, 12, 2);
        numbers(NO_SUBNORMALS, 1, 2, 0);
        numbers(NO_SUBNORMALS, 1, 3, 1);
    }

    private static void numbersOfZeros() {
        makeFormats();
        check.sentence("Promise 12", "both ZEROS count");
        numbers(SIGNED, 0, 0, 2);
        numbers(SIGNED, 0, 1, 2);
        numbers(SIGNED, -1, 0, 2);
        numbers(SIGNED, -1, 1, 2);
        numbers(SIGNED, 0, 2, 3);
        numbers(SIGNED, 1, 1, 0);
        numbers(SIGNED, -1, -1, 0);
        numbers(UNSIGNED, 0, 0, 1);
        numbers(UNSIGNED, -1, 2, 2);
    }

    private static void numbersBelowZero() {
        makeFormats();
        check.sentence("Promise 12", "NUMBERS from low to high UNITS, below 0");
        numbers(SIGNED, -8, -2, 4);
        numbers(SIGNED, -7, -2, 3);
        numbers(SIGNED, -8, -3, 3);
        numbers(SIGNED, -2, 2, 4);
        numbers(SIGNED, -12, -12, 1);
        numbers(UNSIGNED, -100, -1, 0);
    }

    private static void numbersAtGreat() {
        makeFormats();
        check.sentence("Promise 12 and terms 1", "NUMBERS are all but ENDLESS and NONE ones");
        numbers(SIGNED, 12, 12, 1);
        numbers(SIGNED, 13, 1L << 40, 0);
        numbers(SIGNED, -(1L << 40), -13, 0);
        numbers(SIGNED, -12, 12, 12);
        numbers(SIGNED, -11, 11, 10);
        numbers(ONE_TOP, -16, 16, 14);
        numbers(ONE_TOP, 17, 24, 0);
        numbers(PLAIN, -24, 24, 16);
        numbers(PLAIN, 24, 24, 1);
        numbers(PLAIN, 25, 25, 0);
        numbers(SMALLEST, -2, 2, 4);
        numbers(SMALLEST, -1, 1, 2);
    }

    private static void numbersFarAway() {
        makeFormats();
        check.sentence("Promise 12", "from low to high UNITS, whatever these are");
        numbers(SIGNED, Long.MIN_VALUE, Long.MAX_VALUE, 12);
        numbers(SIGNED, Long.MIN_VALUE, -1, 5);
        numbers(SIGNED, Long.MIN_VALUE, 0, 7);
        numbers(SIGNED, 0, Long.MAX_VALUE, 7);
        numbers(SIGNED, 1, Long.MAX_VALUE, 5);
        numbers(SIGNED, Long.MIN_VALUE, Long.MIN_VALUE, 0);
        numbers(SIGNED, Long.MAX_VALUE, Long.MAX_VALUE, 0);
        numbers(UNSIGNED, Long.MIN_VALUE, Long.MAX_VALUE, 6);
        x.format(1, 4, 5, 0, true, 2);
        numbers(6, Long.MIN_VALUE, Long.MAX_VALUE, 1024);
        numbers(6, 63L << 15, Long.MAX_VALUE, 1);
        numbers(6, (63L << 15) + 1, Long.MAX_VALUE, 0);
        // 2^32 and some are no more than their lowest 32 bits to one who takes them for an int.
        numbers(6, (1L << 32) + 2, (1L << 32) + 2, 0);
        numbers(6, -(1L << 32), 1L << 32, 1024);
    }

    private static void numbersOfAnEmptyRange() {
        makeFormats();
        check.sentence("Promise 12", "How many CODES are NUMBERS from low to high (high below low: none)");
        numbers(SIGNED, 1, 0, 0);
        numbers(SIGNED, 0, -1, 0);
        numbers(SIGNED, 4, 2, 0);
        numbers(SIGNED, 12, -12, 0);
        numbers(SIGNED, Long.MAX_VALUE, Long.MIN_VALUE, 0);
    }

    private static void numbersOneByOne() {
        check.sentence("Promises 5 and 12", "How many CODES are NUMBERS from low to high UNITS (from its own to its own: one)");
        for (int part = 0; part < 4; part++) {
            x = new SmallFloats();
            x.format(1, 4, 5, 0, part % 2 == 0, 2);
            for (int code = part * 128 + 1; code < part * 128 + 128; code++) {
                long units = x.units(0, code);
                check.due("numbers from and to that of " + code, 1, x.numbers(0, units, units));
                check.due("numbers up to that of " + code, code + 2, x.numbers(0, 0, units));
                check.due("numbers from that of minus " + code, code + 2, x.numbers(0, -units, 0));
            }
        }
    }
}
