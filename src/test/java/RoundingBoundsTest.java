/**
 * Terms 2 on rounding and promises 6 and 7, sentence by sentence: just below, at and just above each
 * middle, GREAT and what is above it, by each mode and each TOP.
 */
public final class RoundingBoundsTest {
    private static final Check check = new Check("RoundingBoundsTest");
    private static final int EVEN = 0, AWAY = 1, IN = 2, DOWN = 3, UP = 4, ODD = 5;
    // Numbers of makeFormats(): codes 0 .. are 0, 1/4, .., 2 (8), 5/2, 3, 7/2 (11), then 4, 5, 6, 7 (15), where there are such.
    private static final int ENDLESS_TOP = 0, ONE_TOP = 1, PLAIN_TOP = 2, NO_FRACTION = 3, UNSIGNED = 4, SMALLEST = 5;
    private static final int MINUS = 16;
    // So many parts of 1 as q can tell: the smallest step that code() can be asked for.
    private static final long PARTS = 1 << 20;
    private static SmallFloats x;

    public static void main(String[] args) {
        signOfX();
        withoutSign();
        numbersStay();
        allNumbersStay();
        even();
        away();
        in();
        down();
        up();
        odd();
        betweenZeroAndTheLeast();
        aboveGreatEvenAndAway();
        aboveGreatOfTheSmallest();
        aboveGreatIn();
        aboveGreatDown();
        aboveGreatUp();
        aboveGreatOdd();
        beyondOfTopEndless();
        beyondOfTopOne();
        beyondOfTopPlain();
        countedInexact();
        countedOver();
        zeroOfCode();
        boundsOfCode();
        crossOfZero();
        crossOfNumbers();
        crossOfNone();
        crossOfEndless();
        crossOfEndlessWithoutSign();
        check.end();
    }

    private static void makeFormats() {
        x = new SmallFloats();
        x.format(1, 2, 2, 1, true, 0);
        x.format(1, 2, 2, 1, true, 1);
        x.format(1, 2, 2, 1, true, 2);
        x.format(1, 2, 0, 1, true, 0);
        x.format(0, 2, 2, 1, true, 1);
        x.format(1, 1, 1, 0, true, 0);
    }

    /** What p / q becomes by one mode. */
    private static void due(int format, int mode, long p, long q, int want) {
        String call = "code(" + format + ", " + p + ", " + q + ", " + mode + ")";
        check.fine(x, call, want, x.code(format, p, q, mode));
    }

    /** What p / q becomes by all modes, in their order. */
    private static void all(int format, long p, long q, int... want) {
        for (int mode = 0; mode < 6; mode++) {
            due(format, mode, p, q, want[mode]);
        }
    }

    private static void always(int format, long p, long q, int want) {
        all(format, p, q, want, want, want, want, want, want);
    }

    private static void signOfX() {
        makeFormats();
        check.sentence("Terms 2", "the CODE gets the sign of x");
        due(0, IN, 9, 4, 8);
        due(0, IN, -9, 4, MINUS + 8);
        due(0, IN, 1, PARTS, 0);
        due(0, IN, -1, PARTS, MINUS);
        due(0, EVEN, -1, 8, MINUS);
        due(0, UP, -1, 8, MINUS);
        due(0, DOWN, 1, 8, 0);
    }

    private static void withoutSign() {
        makeFormats();
        check.sentence("Terms 2", "x below 0 where s is 0: ZERO (INEXACT, never OVER)");
        always(UNSIGNED, -1, PARTS, 0);
        check.counts(x, "of those just below 0", 6, 0, 0);
        always(UNSIGNED, -1, 1, 0);
        always(UNSIGNED, -6, 1, 0);
        always(UNSIGNED, -7, 1, 0);
        always(UNSIGNED, -(1L << 40), 1, 0);
        check.counts(x, "of those far below 0", 30, 0, 0);
        check.fine(x, "-6 of another format", 0, x.cross(ONE_TOP, MINUS + 14, UNSIGNED, DOWN));
        check.counts(x, "of a cross below 0", 31, 0, 0);
        check.fine(x, "1/4 less 1/2", 0, x.act(UNSIGNED, 1, 1, 2, AWAY));
        check.counts(x, "of a DIFFERENCE below 0", 32, 0, 0);
        always(UNSIGNED, 6, 1, 14);
        check.counts(x, "of GREAT", 32, 0, 0);
        due(UNSIGNED, AWAY, 1, 8, 1);
        due(UNSIGNED, DOWN, 1, 8, 0);
        due(UNSIGNED, UP, 1, 8, 1);
    }

    private static void numbersStay() {
        makeFormats();
        check.sentence("Terms 2", "y up to GREAT: a NUMBER that it is");
        always(ENDLESS_TOP, 1, 4, 1);
        always(ENDLESS_TOP, -1, 4, MINUS + 1);
        always(ENDLESS_TOP, 7, 2, 11);
        always(ENDLESS_TOP, -7, 2, MINUS + 11);
        always(ONE_TOP, 6, 1, 14);
        always(ONE_TOP, -6, 1, MINUS + 14);
        always(PLAIN_TOP, 7, 1, 15);
        always(PLAIN_TOP, -7, 1, MINUS + 15);
        always(NO_FRACTION, 2 * PARTS, PARTS, 2);
        always(SMALLEST, 1, 1, 1);
        check.counts(x, "of NUMBERS", 0, 0, 0);
    }

    private static void allNumbersStay() {
        check.sentence("Terms 2 and promise 7", "y up to GREAT: a NUMBER that it is (each of the largest format)");
        for (int part = 0; part < 4; part++) {
            x = new SmallFloats();
            x.format(1, 4, 5, 15, part % 2 == 0, 2);
            for (int code = part * 256; code < part * 256 + 256; code++) {
                check.due("cross(0, " + code + ", 0, ..)", code, x.cross(0, code, 0, code % 6));
            }
            check.counts(x, "of NUMBERS", 0, 0, 0);
        }
    }

    /** Between 2 (code 8) and 5/2, and between 5/2 (code 9) and 3: one part below each middle, at it, one part above. */
    private static void aroundTheMiddles(int mode, int sign, int... want) {
        int minus = sign < 0 ? MINUS : 0;
        long middle = 9 * PARTS / 4;
        due(0, mode, sign * (2 * PARTS + 1), PARTS, minus + want[0]);
        due(0, mode, sign * (middle - 1), PARTS, minus + want[1]);
        due(0, mode, sign * middle, PARTS, minus + want[2]);
        due(0, mode, sign * (middle + 1), PARTS, minus + want[3]);
        middle += PARTS / 2;
        due(0, mode, sign * (middle - 1), PARTS, minus + want[4]);
        due(0, mode, sign * middle, PARTS, minus + want[5]);
        due(0, mode, sign * (middle + 1), PARTS, minus + want[6]);
        due(0, mode, sign * (3 * PARTS - 1), PARTS, minus + want[7]);
        check.counts(x, "all are INEXACT", x.count(0), 0, 0);
    }

    private static void even() {
        makeFormats();
        check.sentence("Terms 2", "0 EVEN: the nearer one, of both alike that with the even CODE");
        aroundTheMiddles(EVEN, 1, 8, 8, 8, 9, 9, 10, 10, 10);
        aroundTheMiddles(EVEN, -1, 8, 8, 8, 9, 9, 10, 10, 10);
        check.counts(x, "of EVEN", 16, 0, 0);
        // 13/4 lies between 3 (code 10) and 7/2 (GREAT).
        due(0, EVEN, 13, 4, 10);
        due(0, EVEN, -13, 4, MINUS + 10);
    }

    private static void away() {
        makeFormats();
        check.sentence("Terms 2", "1 AWAY: the nearer one, of both alike h");
        aroundTheMiddles(AWAY, 1, 8, 8, 9, 9, 9, 10, 10, 10);
        aroundTheMiddles(AWAY, -1, 8, 8, 9, 9, 9, 10, 10, 10);
        check.counts(x, "of AWAY", 16, 0, 0);
    }

    private static void in() {
        makeFormats();
        check.sentence("Terms 2", "2 IN: l");
        aroundTheMiddles(IN, 1, 8, 8, 8, 8, 9, 9, 9, 9);
        aroundTheMiddles(IN, -1, 8, 8, 8, 8, 9, 9, 9, 9);
        check.counts(x, "of IN", 16, 0, 0);
    }

    private static void down() {
        makeFormats();
        check.sentence("Terms 2", "3 DOWN: l, if x is above 0, else h");
        aroundTheMiddles(DOWN, 1, 8, 8, 8, 8, 9, 9, 9, 9);
        aroundTheMiddles(DOWN, -1, 9, 9, 9, 9, 10, 10, 10, 10);
        check.counts(x, "of DOWN", 16, 0, 0);
    }

    private static void up() {
        makeFormats();
        check.sentence("Terms 2", "4 UP: h, if x is above 0, else l");
        aroundTheMiddles(UP, 1, 9, 9, 9, 9, 10, 10, 10, 10);
        aroundTheMiddles(UP, -1, 8, 8, 8, 8, 9, 9, 9, 9);
        check.counts(x, "of UP", 16, 0, 0);
    }

    private static void odd() {
        makeFormats();
        check.sentence("Terms 2", "5 ODD: that with the odd CODE (CODES without sign)");
        aroundTheMiddles(ODD, 1, 9, 9, 9, 9, 9, 9, 9, 9);
        aroundTheMiddles(ODD, -1, 9, 9, 9, 9, 9, 9, 9, 9);
        check.counts(x, "of ODD", 16, 0, 0);
    }

    private static void betweenZeroAndTheLeast() {
        makeFormats();
        check.sentence("Terms 2", "else of the two between which it lies, l below, h above (ZERO and the least NUMBER)");
        all(0, 1, PARTS, 0, 0, 0, 0, 1, 1);
        all(0, PARTS / 8 - 1, PARTS, 0, 0, 0, 0, 1, 1);
        all(0, PARTS / 8, PARTS, 0, 1, 0, 0, 1, 1);
        all(0, PARTS / 8 + 1, PARTS, 1, 1, 0, 0, 1, 1);
        all(0, PARTS / 4 - 1, PARTS, 1, 1, 0, 0, 1, 1);
        all(0, -1, PARTS, MINUS, MINUS, MINUS, MINUS + 1, MINUS, MINUS + 1);
        all(0, 1 - PARTS / 4, PARTS, MINUS + 1, MINUS + 1, MINUS, MINUS + 1, MINUS, MINUS + 1);
        // Without SUBNORMALS the least NUMBER of format 6 is 5 UNITS, 5/8, so its middle is 5/16.
        x.format(1, 2, 2, 1, false, 0);
        all(6, 5 * PARTS / 16 - 1, PARTS, 0, 0, 0, 0, 1, 1);
        all(6, 5 * PARTS / 16, PARTS, 0, 1, 0, 0, 1, 1);
        all(6, 5 * PARTS / 16 + 1, PARTS, 1, 1, 0, 0, 1, 1);
        all(6, 5, 8, 1, 1, 1, 1, 1, 1);
        check.due("OVER", 0, x.count(1));
    }

    private static void aboveGreatEvenAndAway() {
        makeFormats();
        check.sentence("Terms 2", "EVEN, AWAY: BEYOND, if y is GREAT and half of GREAT less LAST, or above");
        for (int mode = EVEN; mode <= AWAY; mode++) {
            // GREAT 7/2, LAST 3: from 15/4 on.
            due(ENDLESS_TOP, mode, 7 * PARTS / 2 + 1, PARTS, 11);
            due(ENDLESS_TOP, mode, 15 * PARTS / 4 - 1, PARTS, 11);
            due(ENDLESS_TOP, mode, 15, 4, 12);
            due(ENDLESS_TOP, mode, 15 * PARTS / 4 + 1, PARTS, 12);
            due(ENDLESS_TOP, mode, 1 - 15 * PARTS / 4, PARTS, MINUS + 11);
            due(ENDLESS_TOP, mode, -15, 4, MINUS + 12);
            // GREAT 6, LAST 5: from 13/2 on.
            due(ONE_TOP, mode, 13 * PARTS / 2 - 1, PARTS, 14);
            due(ONE_TOP, mode, 13, 2, 15);
            due(ONE_TOP, mode, 1 - 13 * PARTS / 2, PARTS, MINUS + 14);
            due(ONE_TOP, mode, -13, 2, 15);
            // GREAT 2, an even code, LAST 1: from 5/2 on.
            due(NO_FRACTION, mode, 5 * PARTS / 2 - 1, PARTS, 2);
            due(NO_FRACTION, mode, 5, 2, 3);
            due(NO_FRACTION, mode, -5, 2, 7);
        }
        check.counts(x, "of all", 26, 26, 0);
    }

    private static void aboveGreatOfTheSmallest() {
        makeFormats();
        check.sentence("Terms 1 and 2", "LAST (0, if there is none); GREAT and half of GREAT less LAST");
        due(SMALLEST, EVEN, 3 * PARTS / 2 - 1, PARTS, 1);
        due(SMALLEST, EVEN, 3, 2, 2);
        due(SMALLEST, AWAY, 3 * PARTS / 2 - 1, PARTS, 1);
        due(SMALLEST, AWAY, 3, 2, 2);
        due(SMALLEST, EVEN, -3, 2, 6);
        check.counts(x, "of the smallest", 5, 5, 0);
    }

    private static void aboveGreatIn() {
        makeFormats();
        check.sentence("Terms 2", "y above GREAT: IN: GREAT");
        due(ENDLESS_TOP, IN, 7 * PARTS / 2 + 1, PARTS, 11);
        due(ENDLESS_TOP, IN, 1L << 40, 1, 11);
        due(ENDLESS_TOP, IN, -(1L << 40), 1, MINUS + 11);
        due(ONE_TOP, IN, 1L << 40, 1, 14);
        due(ONE_TOP, IN, -(1L << 40), 1, MINUS + 14);
        due(PLAIN_TOP, IN, 1L << 40, 1, 15);
        check.counts(x, "of IN", 6, 6, 0);
    }

    private static void aboveGreatDown() {
        makeFormats();
        check.sentence("Terms 2", "y above GREAT: DOWN: BEYOND, if x is below 0");
        due(ENDLESS_TOP, DOWN, 7 * PARTS / 2 + 1, PARTS, 11);
        due(ENDLESS_TOP, DOWN, 1L << 40, 1, 11);
        due(ENDLESS_TOP, DOWN, -7 * PARTS / 2 - 1, PARTS, MINUS + 12);
        due(ONE_TOP, DOWN, 1L << 40, 1, 14);
        due(ONE_TOP, DOWN, -6 * PARTS - 1, PARTS, 15);
        check.counts(x, "of DOWN", 5, 5, 0);
    }

    private static void aboveGreatUp() {
        makeFormats();
        check.sentence("Terms 2", "y above GREAT: UP: BEYOND, if x is above 0");
        due(ENDLESS_TOP, UP, 7 * PARTS / 2 + 1, PARTS, 12);
        due(ENDLESS_TOP, UP, -7 * PARTS / 2 - 1, PARTS, MINUS + 11);
        due(ENDLESS_TOP, UP, -(1L << 40), 1, MINUS + 11);
        due(ONE_TOP, UP, 6 * PARTS + 1, PARTS, 15);
        due(ONE_TOP, UP, -(1L << 40), 1, MINUS + 14);
        check.counts(x, "of UP", 5, 5, 0);
    }

    private static void aboveGreatOdd() {
        makeFormats();
        check.sentence("Terms 2", "y above GREAT: ODD: BEYOND, if GREAT's CODE is even");
        due(ENDLESS_TOP, ODD, 7 * PARTS / 2 + 1, PARTS, 11);
        due(ENDLESS_TOP, ODD, -(1L << 40), 1, MINUS + 11);
        due(NO_FRACTION, ODD, 2 * PARTS + 1, PARTS, 3);
        due(NO_FRACTION, ODD, -2 * PARTS - 1, PARTS, 7);
        due(ONE_TOP, ODD, 6 * PARTS + 1, PARTS, 15);
        due(ONE_TOP, ODD, -6 * PARTS - 1, PARTS, 15);
        due(PLAIN_TOP, ODD, 7 * PARTS + 1, PARTS, 15);
        due(SMALLEST, ODD, 1L << 40, 1, 1);
        check.counts(x, "of ODD", 8, 8, 0);
    }

    private static void beyondOfTopEndless() {
        makeFormats();
        check.sentence("Terms 2", "BEYOND is: TOP 0 ENDLESS");
        due(ENDLESS_TOP, AWAY, 100, 1, 12);
        due(ENDLESS_TOP, AWAY, -100, 1, MINUS + 12);
        due(SMALLEST, AWAY, -100, 1, 6);
        check.counts(x, "of TOP 0", 3, 3, 0);
    }

    private static void beyondOfTopOne() {
        makeFormats();
        check.sentence("Terms 1 and 2", "BEYOND is: TOP 1 THE NONE (sign 0)");
        due(ONE_TOP, AWAY, 100, 1, 15);
        due(ONE_TOP, AWAY, -100, 1, 15);
        due(UNSIGNED, AWAY, 100, 1, 15);
        check.counts(x, "of TOP 1: it is OVER, not INVALID", 3, 3, 0);
    }

    private static void beyondOfTopPlain() {
        makeFormats();
        check.sentence("Terms 2", "BEYOND is: TOP 2 GREAT");
        always(PLAIN_TOP, 7 * PARTS + 1, PARTS, 15);
        always(PLAIN_TOP, 100, 1, 15);
        always(PLAIN_TOP, -100, 1, MINUS + 15);
        check.counts(x, "of TOP 2: OVER all the same", 18, 18, 0);
    }

    private static void countedInexact() {
        makeFormats();
        check.sentence("Terms 2", "COUNTED are roundings of x that is no NUMBER of the FORMAT (INEXACT)");
        due(0, EVEN, 2, 1, 8);
        check.counts(x, "of a NUMBER", 0, 0, 0);
        due(0, EVEN, 2 * PARTS + 1, PARTS, 8);
        check.counts(x, "of one that is 2^-20 above it", 1, 0, 0);
        due(0, EVEN, 2 * PARTS - 1, PARTS, 8);
        check.counts(x, "of one that is 2^-20 below it", 2, 0, 0);
        due(0, EVEN, 0, 1, 0);
        check.counts(x, "of 0", 2, 0, 0);
        due(0, EVEN, 1, PARTS, 0);
        check.counts(x, "of one that becomes ZERO", 3, 0, 0);
    }

    private static void countedOver() {
        makeFormats();
        check.sentence("Terms 2", "those of y above GREAT (OVER; INEXACT, too)");
        due(0, EVEN, 7, 2, 11);
        check.counts(x, "of GREAT", 0, 0, 0);
        due(0, EVEN, 7 * PARTS / 2 - 1, PARTS, 11);
        check.counts(x, "of one that is below GREAT and becomes it", 1, 0, 0);
        due(0, EVEN, 7 * PARTS / 2 + 1, PARTS, 11);
        check.counts(x, "of one that is above GREAT and becomes it", 2, 1, 0);
        due(0, EVEN, -100, 1, MINUS + 12);
        check.counts(x, "of one that becomes ENDLESS", 3, 2, 0);
    }

    private static void zeroOfCode() {
        makeFormats();
        check.sentence("Terms 2 and promise 6", "x 0: ZERO, minus if that is told; p 0: ZERO");
        for (int format = 0; format < 6; format++) {
            always(format, 0, 1, 0);
            always(format, 0, PARTS, 0);
        }
        check.counts(x, "of 0", 0, 0, 0);
    }

    private static void boundsOfCode() {
        x = new SmallFloats();
        check.sentence("Promise 6", "p -2^40 .. 2^40, q 1 .. 2^20");
        // The formats with the greatest and the least units: GREAT is 63/32 and 64512, the least 2^-19 and 2^-4.
        x.format(1, 4, 5, 15, true, 2);
        x.format(1, 4, 5, 0, true, 2);
        due(0, IN, 1L << 40, 1, 511);
        due(0, IN, -(1L << 40), 1, 1023);
        due(1, IN, 1L << 40, PARTS, 511);
        check.counts(x, "of 2^40 and 2^20", 3, 3, 0);
        due(1, IN, 64512 * PARTS, PARTS, 511);
        check.counts(x, "of GREAT as 2^20ths", 3, 3, 0);
        due(1, IN, 64512 * PARTS + 1, PARTS, 511);
        check.counts(x, "of one 2^20th above GREAT", 4, 4, 0);
        due(1, IN, 64512 * PARTS - 1, PARTS, 510);
        check.counts(x, "of one 2^20th below GREAT", 5, 4, 0);
        due(0, UP, 1, PARTS, 1);
        due(0, AWAY, 1, PARTS, 1);
        due(0, EVEN, 1, PARTS, 0);
        due(0, DOWN, -1, PARTS, 513);
        due(0, EVEN, 3, PARTS, 2);
        check.counts(x, "of the least ones", 10, 4, 0);
        due(0, EVEN, 2, PARTS, 1);
        check.counts(x, "of the least NUMBER", 10, 4, 0);
    }

    private static void crossOfZero() {
        makeFormats();
        check.sentence("Promise 7", "a ZERO keeps its sign, if s is 1");
        for (int mode = 0; mode < 6; mode++) {
            check.fine(x, "ZERO", 0, x.cross(ENDLESS_TOP, 0, NO_FRACTION, mode));
            check.fine(x, "minus ZERO", 4, x.cross(ENDLESS_TOP, MINUS, NO_FRACTION, mode));
            check.fine(x, "minus ZERO to s 0", 0, x.cross(ENDLESS_TOP, MINUS, UNSIGNED, mode));
            check.fine(x, "ZERO of s 0", 0, x.cross(UNSIGNED, 0, ENDLESS_TOP, mode));
        }
        check.counts(x, "of ZEROS", 0, 0, 0);
    }

    private static void crossOfNumbers() {
        makeFormats();
        check.sentence("Promise 7", "A CODE in another FORMAT, rounded");
        check.fine(x, "7/2 to one that has it", 11, x.cross(ENDLESS_TOP, 11, PLAIN_TOP, IN));
        check.fine(x, "to the same format", MINUS + 11, x.cross(ENDLESS_TOP, MINUS + 11, ENDLESS_TOP, IN));
        check.counts(x, "of NUMBERS of both", 0, 0, 0);
        check.fine(x, "5/4 to 1", 1, x.cross(ENDLESS_TOP, 5, NO_FRACTION, EVEN));
        check.fine(x, "3/2 to 2, which is even", 2, x.cross(ENDLESS_TOP, 6, NO_FRACTION, EVEN));
        check.counts(x, "of NUMBERS between", 2, 0, 0);
        check.fine(x, "2 is GREAT", 2, x.cross(ENDLESS_TOP, 8, NO_FRACTION, UP));
        check.counts(x, "of GREAT", 2, 0, 0);
        check.fine(x, "5/2 is above GREAT", 3, x.cross(ENDLESS_TOP, 9, NO_FRACTION, EVEN));
        check.fine(x, "-5/2 is above GREAT", 7, x.cross(ENDLESS_TOP, MINUS + 9, NO_FRACTION, DOWN));
        check.fine(x, "7 to GREAT 7/2", 11, x.cross(PLAIN_TOP, 15, ENDLESS_TOP, IN));
        check.counts(x, "of NUMBERS above GREAT", 5, 3, 0);
        check.fine(x, "7 above the NONE's place", 15, x.cross(PLAIN_TOP, 15, ONE_TOP, EVEN));
        check.counts(x, "of one that becomes THE NONE", 6, 4, 0);
        // The units of both are as far from one another as they can be.
        x.format(1, 4, 5, 15, true, 2);
        x.format(1, 4, 0, 0, true, 2);
        check.fine(x, "2^-19 to 2", 1, x.cross(6, 1, 7, UP));
        check.fine(x, "2^-19 to 0", 0, x.cross(6, 1, 7, AWAY));
        check.fine(x, "32768 to 63/32", 511, x.cross(7, 15, 6, IN));
    }

    private static void crossOfNone() {
        makeFormats();
        check.sentence("Promise 7", "NONE: that one's NONE (INVALID where there is none)");
        for (int code : new int[] {13, 14, 15, 29, 31}) {
            check.fine(x, "to TOP 0", 14, x.cross(ENDLESS_TOP, code, ENDLESS_TOP, DOWN));
            check.fine(x, "to TOP 1", 15, x.cross(ENDLESS_TOP, code, ONE_TOP, DOWN));
            check.fine(x, "to TOP 1 of s 0", 15, x.cross(ENDLESS_TOP, code, UNSIGNED, DOWN));
            check.fine(x, "to f 1", 3, x.cross(ENDLESS_TOP, code, SMALLEST, DOWN));
        }
        check.fine(x, "of TOP 1", 14, x.cross(ONE_TOP, 15, ENDLESS_TOP, EVEN));
        check.fine(x, "of TOP 1, with a sign", 14, x.cross(ONE_TOP, 31, ENDLESS_TOP, EVEN));
        check.counts(x, "of NONE ones that have one", 0, 0, 0);
        check.refused(x, "to TOP 2", SmallFloats.INVALID, x.cross(ENDLESS_TOP, 14, PLAIN_TOP, EVEN));
        check.counts(x, "of one to TOP 2", 0, 0, 1);
        check.refused(x, "to TOP 0 with f 0", SmallFloats.INVALID, x.cross(ONE_TOP, 31, NO_FRACTION, EVEN));
        check.counts(x, "of one to f 0", 0, 0, 2);
    }

    private static void crossOfEndless() {
        makeFormats();
        check.sentence("Promise 7", "ENDLESS: ENDLESS, or (TOP 1, 2) BEYOND, by its sign");
        for (int mode = 0; mode < 6; mode++) {
            check.fine(x, "to TOP 0", 3, x.cross(ENDLESS_TOP, 12, NO_FRACTION, mode));
            check.fine(x, "minus, to TOP 0", 7, x.cross(ENDLESS_TOP, MINUS + 12, NO_FRACTION, mode));
            check.fine(x, "to TOP 1", 15, x.cross(ENDLESS_TOP, 12, ONE_TOP, mode));
            check.fine(x, "minus, to TOP 1", 15, x.cross(ENDLESS_TOP, MINUS + 12, ONE_TOP, mode));
            check.fine(x, "to TOP 2", 15, x.cross(ENDLESS_TOP, 12, PLAIN_TOP, mode));
            check.fine(x, "minus, to TOP 2", MINUS + 15, x.cross(ENDLESS_TOP, MINUS + 12, PLAIN_TOP, mode));
        }
        check.counts(x, "not COUNTED", 0, 0, 0);
    }

    private static void crossOfEndlessWithoutSign() {
        makeFormats();
        check.sentence("Promise 7", "where s is 0 and it is minus: ZERO; not COUNTED");
        x.format(0, 2, 2, 1, true, 0);
        x.format(0, 2, 2, 1, true, 2);
        int[] unsigned = {6, UNSIGNED, 7};
        int[] plus = {12, 15, 15};
        for (int mode = 0; mode < 6; mode++) {
            for (int i = 0; i < 3; i++) {
                check.fine(x, "minus ENDLESS", 0, x.cross(ENDLESS_TOP, MINUS + 12, unsigned[i], mode));
                check.fine(x, "ENDLESS", plus[i], x.cross(ENDLESS_TOP, 12, unsigned[i], mode));
            }
        }
        check.counts(x, "not COUNTED", 0, 0, 0);
    }
}
