/** Terms 2 on acts and FUSED, and promises 8 and 9, sentence by sentence. */
public final class ActBoundsTest {
    private static final Check check = new Check("ActBoundsTest");
    private static final int SUM = 0, DIFFERENCE = 1, PRODUCT = 2, QUOTIENT = 3, ROOT = 4, LEAST = 5, MOST = 6;
    private static final int EVEN = 0, AWAY = 1, IN = 2, DOWN = 3, UP = 4, ODD = 5;
    // Numbers of makeFormats().
    private static final int SIGNED = 0, UNSIGNED = 1, ONE_TOP = 2, PLAIN = 3, NO_FRACTION = 4;
    private static final int UNSIGNED_ONE = 5, UNSIGNED_PLAIN = 6;
    // Codes of SIGNED: the least NUMBER is 1/16, GREAT 14.
    private static final int LEAST_ONE = 1, HALF = 8, ONE = 12, THREE = 18, FIVE = 21, GREAT = 27;
    private static final int ENDLESS = 28, NONE = 30, MINUS = 32;
    private static SmallFloats x;

    public static void main(String[] args) {
        noneIsTaken();
        noneAheadOfInvalid();
        rootTakesOne();
        invalidSum();
        invalidDifference();
        invalidProduct();
        invalidQuotient();
        invalidRoot();
        invalidIsTheNone();
        invalidIsRefused();
        endless();
        byEndless();
        ofEndless();
        numbersByZero();
        minusWithoutSign();
        roundedOnce();
        rootsRoundedOnce();
        rootsBetweenUnits();
        lessThanZeroByOneUnit();
        aboveGreat();
        signsOfProductAndQuotient();
        rootOfZero();
        sumOfZeros();
        differenceOfZeros();
        leastAndMost();
        leastAndMostOfAlike();
        fusedRoundedOnce();
        fusedNone();
        fusedInvalid();
        fusedEndless();
        fusedZero();
        check.end();
    }

    private static void makeFormats() {
        x = new SmallFloats();
        x.format(1, 3, 2, 3, true, 0);
        x.format(0, 3, 2, 3, true, 0);
        x.format(1, 2, 1, 1, true, 1);
        x.format(1, 2, 1, 1, true, 2);
        x.format(1, 3, 0, 3, true, 0);
        x.format(0, 2, 1, 1, true, 1);
        x.format(0, 2, 1, 1, true, 2);
    }

    private static void due(int format, int what, int a, int b, int mode, int want) {
        String call = "act(" + format + ", " + what + ", " + a + ", " + b + ", " + mode + ")";
        check.fine(x, call, want, x.act(format, what, a, b, mode));
    }

    /** The answers by all modes, in their order. */
    private static void all(int format, int what, int a, int b, int... want) {
        for (int mode = 0; mode < 6; mode++) {
            due(format, what, a, b, mode, want[mode]);
        }
    }

    private static void always(int format, int what, int a, int b, int want) {
        all(format, what, a, b, want, want, want, want, want, want);
    }

    private static void refused(int format, int what, int a, int b) {
        for (int mode = 0; mode < 6; mode++) {
            String call = "act(" + format + ", " + what + ", " + a + ", " + b + ", " + mode + ")";
            check.refused(x, call, SmallFloats.INVALID, x.act(format, what, a, b, mode));
        }
    }

    private static void fused(int format, int a, int b, int c, int... want) {
        for (int mode = 0; mode < 6; mode++) {
            String call = "fused(" + format + ", " + a + ", " + b + ", " + c + ", " + mode + ")";
            check.fine(x, call, want[mode], x.fused(format, a, b, c, mode));
        }
    }

    private static void fusedAlways(int a, int b, int c, int want) {
        fused(SIGNED, a, b, c, want, want, want, want, want, want);
    }

    private static void noCounts() {
        check.counts(x, "not COUNTED", 0, 0, 0);
    }

    private static void noneIsTaken() {
        makeFormats();
        check.sentence("Terms 2", "If one of those that it takes is NONE: THE NONE");
        for (int what = SUM; what <= MOST; what++) {
            for (int none : new int[] {29, 30, 31, 61, 63}) {
                due(SIGNED, what, none, ONE, EVEN, NONE);
                due(SIGNED, what, none, none, DOWN, NONE);
                if (what != ROOT) {
                    due(SIGNED, what, MINUS + ONE, none, DOWN, NONE);
                }
            }
            due(ONE_TOP, what, 7, 1, EVEN, 7);
            due(ONE_TOP, what, 15, 1, DOWN, 7);
            due(UNSIGNED, what, 31, 1, EVEN, NONE);
        }
        noCounts();
    }

    private static void noneAheadOfInvalid() {
        makeFormats();
        check.sentence("Terms 2", "If one of those that it takes is NONE: THE NONE (ahead of INVALID and of BEYOND)");
        always(SIGNED, PRODUCT, 29, 0, NONE);
        always(SIGNED, PRODUCT, MINUS, 63, NONE);
        always(SIGNED, QUOTIENT, 61, 0, NONE);
        always(SIGNED, QUOTIENT, 0, 29, NONE);
        always(SIGNED, QUOTIENT, 29, ENDLESS, NONE);
        always(SIGNED, SUM, ENDLESS, 63, NONE);
        always(SIGNED, ROOT, 61, 0, NONE);
        noCounts();
    }

    private static void rootTakesOne() {
        makeFormats();
        check.sentence("Promise 8 and terms 2", "4 ROOT (of a); of ROOT b is not looked at");
        always(SIGNED, ROOT, ONE, 29, ONE);
        always(SIGNED, ROOT, ONE, 64, ONE);
        always(SIGNED, ROOT, ONE, -1, ONE);
        always(SIGNED, ROOT, ONE, Integer.MIN_VALUE, ONE);
        noCounts();
    }

    private static void invalidSum() {
        makeFormats();
        check.sentence("Terms 2", "INVALID: ENDLESS ones in SUM that would take one from another");
        always(SIGNED, SUM, ENDLESS, MINUS + ENDLESS, NONE);
        always(SIGNED, SUM, MINUS + ENDLESS, ENDLESS, NONE);
        check.counts(x, "of both", 0, 0, 12);
        always(SIGNED, SUM, ENDLESS, ENDLESS, ENDLESS);
        always(SIGNED, SUM, MINUS + ENDLESS, MINUS + ENDLESS, MINUS + ENDLESS);
        always(SIGNED, SUM, ENDLESS, MINUS + GREAT, ENDLESS);
        always(SIGNED, SUM, GREAT, MINUS + ENDLESS, MINUS + ENDLESS);
        check.counts(x, "of those that are fine", 0, 0, 12);
    }

    private static void invalidDifference() {
        makeFormats();
        check.sentence("Terms 2", "INVALID: ENDLESS ones in DIFFERENCE that would take one from another");
        always(SIGNED, DIFFERENCE, ENDLESS, ENDLESS, NONE);
        always(SIGNED, DIFFERENCE, MINUS + ENDLESS, MINUS + ENDLESS, NONE);
        always(UNSIGNED, DIFFERENCE, ENDLESS, ENDLESS, NONE);
        check.counts(x, "of both", 0, 0, 18);
        always(SIGNED, DIFFERENCE, ENDLESS, MINUS + ENDLESS, ENDLESS);
        always(SIGNED, DIFFERENCE, MINUS + ENDLESS, ENDLESS, MINUS + ENDLESS);
        always(SIGNED, DIFFERENCE, ENDLESS, GREAT, ENDLESS);
        check.counts(x, "of those that are fine", 0, 0, 18);
    }

    private static void invalidProduct() {
        makeFormats();
        check.sentence("Terms 2", "INVALID: ENDLESS times ZERO");
        for (int sign = 0; sign < 4; sign++) {
            int endless = ENDLESS + sign % 2 * MINUS;
            int zero = sign / 2 * MINUS;
            always(SIGNED, PRODUCT, endless, zero, NONE);
            always(SIGNED, PRODUCT, zero, endless, NONE);
        }
        check.counts(x, "of all", 0, 0, 48);
        always(SIGNED, PRODUCT, ENDLESS, LEAST_ONE, ENDLESS);
        always(SIGNED, PRODUCT, MINUS + LEAST_ONE, ENDLESS, MINUS + ENDLESS);
        check.counts(x, "of those that are fine", 0, 0, 48);
    }

    private static void invalidQuotient() {
        makeFormats();
        check.sentence("Terms 2", "INVALID: ENDLESS by ENDLESS, ZERO by ZERO");
        for (int sign = 0; sign < 4; sign++) {
            int a = sign % 2 * MINUS;
            int b = sign / 2 * MINUS;
            due(SIGNED, QUOTIENT, a + ENDLESS, b + ENDLESS, UP, NONE);
            due(SIGNED, QUOTIENT, a, b, UP, NONE);
        }
        due(UNSIGNED, QUOTIENT, ENDLESS, ENDLESS, IN, NONE);
        due(UNSIGNED, QUOTIENT, 0, 0, IN, NONE);
        check.counts(x, "of all", 0, 0, 10);
        always(SIGNED, QUOTIENT, ENDLESS, GREAT, ENDLESS);
        always(SIGNED, QUOTIENT, GREAT, ENDLESS, 0);
        always(SIGNED, QUOTIENT, 0, LEAST_ONE, 0);
        always(SIGNED, QUOTIENT, LEAST_ONE, 0, ENDLESS);
        always(SIGNED, QUOTIENT, ENDLESS, 0, ENDLESS);
        always(SIGNED, QUOTIENT, 0, ENDLESS, 0);
        check.counts(x, "of those that are fine", 0, 0, 10);
    }

    private static void invalidRoot() {
        makeFormats();
        check.sentence("Terms 2", "INVALID: ROOT of what is below 0 (not of minus ZERO)");
        always(SIGNED, ROOT, MINUS + LEAST_ONE, 0, NONE);
        always(SIGNED, ROOT, MINUS + GREAT, 0, NONE);
        always(SIGNED, ROOT, MINUS + ENDLESS, 0, NONE);
        check.counts(x, "of all", 0, 0, 18);
        always(SIGNED, ROOT, MINUS, 0, MINUS);
        always(SIGNED, ROOT, 0, 0, 0);
        always(SIGNED, ROOT, LEAST_ONE, 0, 4);
        check.counts(x, "of those that are fine", 0, 0, 18);
    }

    private static void invalidIsTheNone() {
        makeFormats();
        check.sentence("Terms 2", "INVALID is THE NONE");
        due(SIGNED, QUOTIENT, 0, MINUS, DOWN, NONE);
        due(ONE_TOP, QUOTIENT, 0, 0, EVEN, 7);
        due(ONE_TOP, QUOTIENT, 8, 0, DOWN, 7);
        due(ONE_TOP, ROOT, 9, 0, EVEN, 7);
        due(ONE_TOP, ROOT, 14, 0, EVEN, 7);
        due(UNSIGNED_ONE, QUOTIENT, 0, 0, EVEN, 7);
        check.counts(x, "of all", 0, 0, 6);
    }

    private static void invalidIsRefused() {
        makeFormats();
        check.sentence("Terms 2 and promise 8", "where there is none the act is refused: INVALID");
        refused(PLAIN, QUOTIENT, 0, 8);
        refused(PLAIN, ROOT, 9, 0);
        refused(UNSIGNED_PLAIN, QUOTIENT, 0, 0);
        check.counts(x, "of TOP 2", 0, 0, 18);
        refused(NO_FRACTION, SUM, 7, 15);
        refused(NO_FRACTION, DIFFERENCE, 15, 15);
        refused(NO_FRACTION, PRODUCT, 8, 7);
        refused(NO_FRACTION, QUOTIENT, 7, 15);
        refused(NO_FRACTION, QUOTIENT, 8, 8);
        refused(NO_FRACTION, ROOT, 15, 0);
        check.counts(x, "of f 0", 0, 0, 54);
        due(PLAIN, ROOT, 8, 0, EVEN, 8);
        due(NO_FRACTION, SUM, 7, 7, EVEN, 7);
        check.counts(x, "of those that are fine", 0, 0, 54);
    }

    private static void endless() {
        makeFormats();
        check.sentence("Terms 2", "ENDLESS in SUM, DIFFERENCE, PRODUCT, ROOT: ENDLESS, by signs");
        int below = MINUS + ENDLESS;
        always(SIGNED, SUM, ONE, ENDLESS, ENDLESS);
        always(SIGNED, SUM, below, ONE, below);
        always(SIGNED, DIFFERENCE, ENDLESS, ONE, ENDLESS);
        always(SIGNED, DIFFERENCE, ONE, ENDLESS, below);
        always(SIGNED, DIFFERENCE, ONE, below, ENDLESS);
        always(SIGNED, DIFFERENCE, below, GREAT, below);
        always(SIGNED, PRODUCT, ENDLESS, ENDLESS, ENDLESS);
        always(SIGNED, PRODUCT, ENDLESS, below, below);
        always(SIGNED, PRODUCT, below, below, ENDLESS);
        always(SIGNED, PRODUCT, MINUS + LEAST_ONE, below, ENDLESS);
        always(SIGNED, PRODUCT, MINUS + LEAST_ONE, ENDLESS, below);
        always(SIGNED, ROOT, ENDLESS, 0, ENDLESS);
        always(NO_FRACTION, SUM, 6, 15, 15);
        always(UNSIGNED, SUM, 0, ENDLESS, ENDLESS);
        noCounts();
    }

    private static void byEndless() {
        makeFormats();
        check.sentence("Terms 2", "QUOTIENT: by ENDLESS ZERO, by signs; not COUNTED");
        int below = MINUS + ENDLESS;
        always(SIGNED, QUOTIENT, GREAT, ENDLESS, 0);
        always(SIGNED, QUOTIENT, MINUS + GREAT, ENDLESS, MINUS);
        always(SIGNED, QUOTIENT, LEAST_ONE, below, MINUS);
        always(SIGNED, QUOTIENT, MINUS + LEAST_ONE, below, 0);
        always(SIGNED, QUOTIENT, 0, below, MINUS);
        always(SIGNED, QUOTIENT, MINUS, ENDLESS, MINUS);
        always(SIGNED, QUOTIENT, MINUS, below, 0);
        always(UNSIGNED, QUOTIENT, GREAT, ENDLESS, 0);
        noCounts();
    }

    private static void ofEndless() {
        makeFormats();
        check.sentence("Terms 2", "QUOTIENT: of ENDLESS BEYOND (TOP 0 ENDLESS), by signs; not COUNTED");
        int below = MINUS + ENDLESS;
        always(SIGNED, QUOTIENT, ENDLESS, GREAT, ENDLESS);
        always(SIGNED, QUOTIENT, ENDLESS, MINUS + LEAST_ONE, below);
        always(SIGNED, QUOTIENT, below, ONE, below);
        always(SIGNED, QUOTIENT, below, MINUS + ONE, ENDLESS);
        always(SIGNED, QUOTIENT, ENDLESS, MINUS, below);
        always(SIGNED, QUOTIENT, below, 0, below);
        always(SIGNED, QUOTIENT, below, MINUS, ENDLESS);
        always(NO_FRACTION, QUOTIENT, 15, 8, 7);
        noCounts();
    }

    private static void numbersByZero() {
        makeFormats();
        check.sentence("Terms 2", "QUOTIENT: of NUMBERS by ZERO BEYOND (TOP 0 ENDLESS), by signs; not COUNTED");
        always(SIGNED, QUOTIENT, LEAST_ONE, 0, ENDLESS);
        always(SIGNED, QUOTIENT, GREAT, MINUS, MINUS + ENDLESS);
        always(SIGNED, QUOTIENT, MINUS + ONE, 0, MINUS + ENDLESS);
        always(SIGNED, QUOTIENT, MINUS + ONE, MINUS, ENDLESS);
        always(NO_FRACTION, QUOTIENT, 9, 0, 15);
        always(ONE_TOP, QUOTIENT, 1, 0, 7);
        always(ONE_TOP, QUOTIENT, 14, 0, 7);
        always(ONE_TOP, QUOTIENT, 6, 8, 7);
        always(PLAIN, QUOTIENT, 1, 0, 7);
        always(PLAIN, QUOTIENT, 1, 8, 15);
        always(PLAIN, QUOTIENT, 15, 0, 15);
        always(PLAIN, QUOTIENT, 15, 8, 7);
        always(UNSIGNED, QUOTIENT, 1, 0, ENDLESS);
        always(UNSIGNED_ONE, QUOTIENT, 1, 0, 7);
        always(UNSIGNED_PLAIN, QUOTIENT, 1, 0, 7);
        noCounts();
    }

    private static void minusWithoutSign() {
        makeFormats();
        check.sentence("Terms 2", "where s is 0 and the sign would be minus: ZERO; not COUNTED");
        always(UNSIGNED, DIFFERENCE, GREAT, ENDLESS, 0);
        always(UNSIGNED, DIFFERENCE, 0, ENDLESS, 0);
        noCounts();
        always(UNSIGNED, DIFFERENCE, ENDLESS, 0, ENDLESS);
        noCounts();
        always(UNSIGNED, DIFFERENCE, ONE, GREAT, 0);
        check.counts(x, "of NUMBERS: INEXACT", 6, 0, 0);
    }

    private static void roundedOnce() {
        makeFormats();
        check.sentence("Terms 2 and promise 8", "All others: the exact result, rounded once");
        always(SIGNED, SUM, ONE, ONE, 16);
        always(SIGNED, PRODUCT, THREE, MINUS + ONE, MINUS + THREE);
        always(SIGNED, QUOTIENT, GREAT, GREAT, ONE);
        always(SIGNED, DIFFERENCE, ONE, MINUS + ONE, 16);
        noCounts();
        // 1/16 times 1/2 is half of the least NUMBER, times 7/16 it is less, times 5/8 more.
        all(SIGNED, PRODUCT, LEAST_ONE, HALF, 0, 1, 0, 0, 1, 1);
        all(SIGNED, PRODUCT, LEAST_ONE, HALF - 1, 0, 0, 0, 0, 1, 1);
        all(SIGNED, PRODUCT, LEAST_ONE, HALF + 1, 1, 1, 0, 0, 1, 1);
        all(SIGNED, PRODUCT, MINUS + LEAST_ONE, LEAST_ONE, 32, 32, 32, 33, 32, 33);
        // 1 by 3 lies between 5/16 and 3/8, 1 by 5 between 3/16 and 1/4.
        all(SIGNED, QUOTIENT, ONE, THREE, 5, 5, 5, 5, 6, 5);
        all(SIGNED, QUOTIENT, ONE, MINUS + FIVE, 35, 35, 35, 36, 35, 35);
        all(SIGNED, QUOTIENT, LEAST_ONE, GREAT, 0, 0, 0, 0, 1, 1);
        // 1 and 1/8 is the middle between 1 and 5/4, 1 and 1/16 lies below it, 1 and 3/16 above.
        all(SIGNED, SUM, ONE, 2, 12, 13, 12, 12, 13, 13);
        all(SIGNED, SUM, ONE, 1, 12, 12, 12, 12, 13, 13);
        all(SIGNED, SUM, ONE, 3, 13, 13, 12, 12, 13, 13);
        all(SIGNED, DIFFERENCE, MINUS + ONE, 2, 44, 45, 44, 45, 44, 45);
        check.counts(x, "of inexact ones", 66, 0, 0);
    }

    private static void rootsRoundedOnce() {
        makeFormats();
        check.sentence("Terms 2 and promise 8", "ROOT: the exact result, rounded once");
        always(SIGNED, ROOT, 20, 0, 16);
        always(SIGNED, ROOT, ONE, 0, ONE);
        noCounts();
        // The root of 14, 3.742, is just below 15/4, the middle between 7/2 and 4; that of 5 is 2.236, just below 9/4.
        all(SIGNED, ROOT, GREAT, 0, 19, 19, 19, 19, 20, 19);
        all(SIGNED, ROOT, FIVE, 0, 16, 16, 16, 16, 17, 17);
        // The root of 12 is 3.464, of 3 1.732: just below 7/2 and 7/4, near to h.
        all(SIGNED, ROOT, 26, 0, 19, 19, 18, 18, 19, 19);
        all(SIGNED, ROOT, THREE, 0, 15, 15, 14, 14, 15, 15);
        check.counts(x, "of inexact ones", 24, 0, 0);
        // The root of 64512 is 253.992, just below the middle between 252 and 256; that of 2^-19 is 45.25 times 2^-15.
        x.format(1, 4, 5, 0, true, 2);
        x.format(1, 4, 5, 15, true, 2);
        all(7, ROOT, 511, 0, 255, 255, 255, 255, 256, 255);
        all(8, ROOT, 1, 0, 173, 173, 173, 173, 174, 173);
        // The root of 63/32 is 44.8999 of 32ths.
        all(8, ROOT, 511, 0, 493, 493, 492, 492, 493, 493);
        check.counts(x, "of GREAT and the least one", 42, 0, 0);
    }

    /** Here the root of n UNITS is 2 times the root of n, in UNITS; 5, 6, 7, 8, 10, 12 are the first NUMBERS. */
    private static void rootsBetweenUnits() {
        makeFormats();
        check.sentence("Terms 2 and promise 8", "ROOT: the exact result, rounded once (less than half a UNIT from NUMBERS and middles)");
        x.format(1, 2, 2, 0, false, 0);
        // 4.47 and 4.90 are just below 5, 5.29 just above.
        all(7, ROOT, 1, 0, 1, 1, 0, 0, 1, 1);
        all(7, ROOT, 2, 0, 1, 1, 0, 0, 1, 1);
        all(7, ROOT, 3, 0, 1, 1, 1, 1, 2, 1);
        // 5.66 is just above the middle of 5 and 6, 6.32 just above 6, 6.93 just above the middle of 6 and 7.
        all(7, ROOT, 4, 0, 2, 2, 1, 1, 2, 1);
        all(7, ROOT, 5, 0, 2, 2, 2, 2, 3, 3);
        all(7, ROOT, 6, 0, 3, 3, 2, 2, 3, 3);
        // 7.48 is just below the middle of 7 and 8; the root of 16 UNITS is 8.
        all(7, ROOT, 7, 0, 3, 3, 3, 3, 4, 3);
        check.counts(x, "of inexact ones", 42, 0, 0);
        always(7, ROOT, 8, 0, 4);
        check.counts(x, "of an exact one", 42, 0, 0);
    }

    private static void lessThanZeroByOneUnit() {
        makeFormats();
        check.sentence("Terms 2", "the CODE gets the sign of x (one UNIT, or less, below 0)");
        // 5 less 6 UNITS is -1; 7 times 7 UNITS is 49/8 of one, which is 1/8 more than 6.
        x.format(1, 2, 2, 1, false, 0);
        all(7, DIFFERENCE, 1, 2, 16, 16, 16, 17, 16, 17);
        all(7, DIFFERENCE, 2, 1, 0, 0, 0, 0, 1, 1);
        all(7, SUM, 1, 16 + 2, 16, 16, 16, 17, 16, 17);
        fused(7, 3, 16 + 3, 2, 16, 16, 16, 17, 16, 17);
        fused(7, 3, 3, 16 + 2, 0, 0, 0, 0, 1, 1);
        check.counts(x, "of inexact ones", 30, 0, 0);
    }

    private static void aboveGreat() {
        makeFormats();
        check.sentence("Terms 2", "an act above GREAT (OVER; INEXACT, too), at GREAT and half of GREAT less LAST");
        all(SIGNED, SUM, GREAT, ONE, 28, 28, 27, 27, 28, 27);
        all(SIGNED, SUM, GREAT, ONE - 1, 27, 27, 27, 27, 28, 27);
        all(SIGNED, SUM, GREAT, LEAST_ONE, 27, 27, 27, 27, 28, 27);
        all(SIGNED, DIFFERENCE, MINUS + GREAT, ONE, 60, 60, 59, 60, 59, 59);
        all(SIGNED, PRODUCT, FIVE, THREE, 28, 28, 27, 27, 28, 27);
        all(SIGNED, QUOTIENT, GREAT, MINUS + LEAST_ONE, 60, 60, 59, 60, 59, 59);
        check.counts(x, "of all", 36, 36, 0);
        all(SIGNED, SUM, 26, 16, 27, 27, 27, 27, 27, 27);
        all(SIGNED, SUM, 26, 15, 27, 27, 26, 26, 27, 27);
        check.counts(x, "of GREAT, and of one below it", 42, 36, 0);
        all(PLAIN, SUM, 7, 7, 7, 7, 7, 7, 7, 7);
        all(ONE_TOP, SUM, 14, 14, 7, 7, 14, 7, 14, 7);
        check.counts(x, "of other TOPS", 54, 48, 0);
    }

    private static void signsOfProductAndQuotient() {
        makeFormats();
        check.sentence("Terms 2", "of PRODUCT, QUOTIENT minus, if one of both is");
        for (int sign = 0; sign < 4; sign++) {
            int a = sign % 2 * MINUS;
            int b = sign / 2 * MINUS;
            int both = sign == 1 || sign == 2 ? MINUS : 0;
            always(SIGNED, PRODUCT, a, b + ONE, both);
            always(SIGNED, PRODUCT, a + ONE, b, both);
            due(SIGNED, PRODUCT, a, b, DOWN, both);
            always(SIGNED, QUOTIENT, a, b + GREAT, both);
            always(SIGNED, PRODUCT, a + ONE, b + THREE, both + THREE);
            always(SIGNED, QUOTIENT, a + THREE, b + ONE, both + THREE);
        }
        noCounts();
        due(SIGNED, PRODUCT, LEAST_ONE, MINUS + LEAST_ONE, IN, MINUS);
        due(SIGNED, PRODUCT, MINUS + LEAST_ONE, MINUS + LEAST_ONE, IN, 0);
        due(SIGNED, QUOTIENT, MINUS + LEAST_ONE, GREAT, IN, MINUS);
        check.counts(x, "of those that become ZERO", 3, 0, 0);
    }

    private static void rootOfZero() {
        makeFormats();
        check.sentence("Terms 2", "of ROOT of ZERO its own (sign)");
        for (int format : new int[] {SIGNED, UNSIGNED, ONE_TOP, PLAIN, NO_FRACTION}) {
            always(format, ROOT, 0, 0, 0);
        }
        always(SIGNED, ROOT, MINUS, 0, MINUS);
        always(ONE_TOP, ROOT, 8, 0, 8);
        always(PLAIN, ROOT, 8, 0, 8);
        always(NO_FRACTION, ROOT, 8, 0, 8);
        noCounts();
    }

    private static void sumOfZeros() {
        makeFormats();
        check.sentence("Terms 2", "a SUM that is 0 of two ZEROS with one sign that one, else minus just by DOWN");
        always(SIGNED, SUM, 0, 0, 0);
        always(SIGNED, SUM, MINUS, MINUS, MINUS);
        all(SIGNED, SUM, 0, MINUS, 0, 0, 0, MINUS, 0, 0);
        all(SIGNED, SUM, MINUS, 0, 0, 0, 0, MINUS, 0, 0);
        all(SIGNED, SUM, LEAST_ONE, MINUS + LEAST_ONE, 0, 0, 0, MINUS, 0, 0);
        all(SIGNED, SUM, MINUS + GREAT, GREAT, 0, 0, 0, MINUS, 0, 0);
        always(SIGNED, SUM, MINUS, LEAST_ONE, LEAST_ONE);
        always(UNSIGNED, SUM, 0, 0, 0);
        noCounts();
    }

    private static void differenceOfZeros() {
        makeFormats();
        check.sentence("Terms 2", "(DIFFERENCE: of the second one's other sign) that one, else minus just by DOWN");
        always(SIGNED, DIFFERENCE, 0, MINUS, 0);
        always(SIGNED, DIFFERENCE, MINUS, 0, MINUS);
        all(SIGNED, DIFFERENCE, 0, 0, 0, 0, 0, MINUS, 0, 0);
        all(SIGNED, DIFFERENCE, MINUS, MINUS, 0, 0, 0, MINUS, 0, 0);
        all(SIGNED, DIFFERENCE, GREAT, GREAT, 0, 0, 0, MINUS, 0, 0);
        all(SIGNED, DIFFERENCE, MINUS + ONE, MINUS + ONE, 0, 0, 0, MINUS, 0, 0);
        always(UNSIGNED, DIFFERENCE, 0, 0, 0);
        always(UNSIGNED, DIFFERENCE, ONE, ONE, 0);
        noCounts();
    }

    private static void leastAndMost() {
        makeFormats();
        check.sentence("Terms 2", "LEAST, MOST: by what they are (minus ENDLESS least)");
        int below = MINUS + ENDLESS;
        int[] rising = {below, MINUS + GREAT, MINUS + 26, MINUS + LEAST_ONE, 0, LEAST_ONE, 4, GREAT, ENDLESS};
        for (int i = 0; i < rising.length; i++) {
            for (int j = 0; j < rising.length; j++) {
                due(SIGNED, LEAST, rising[i], rising[j], DOWN, rising[Math.min(i, j)]);
                due(SIGNED, MOST, rising[i], rising[j], UP, rising[Math.max(i, j)]);
            }
        }
        noCounts();
    }

    private static void leastAndMostOfAlike() {
        makeFormats();
        check.sentence("Terms 2", "of two alike minus ZERO is less, else the first one");
        always(SIGNED, LEAST, 0, MINUS, MINUS);
        always(SIGNED, LEAST, MINUS, 0, MINUS);
        always(SIGNED, MOST, 0, MINUS, 0);
        always(SIGNED, MOST, MINUS, 0, 0);
        always(SIGNED, LEAST, MINUS, MINUS, MINUS);
        always(SIGNED, MOST, MINUS, MINUS, MINUS);
        always(SIGNED, LEAST, GREAT, GREAT, GREAT);
        always(SIGNED, MOST, ENDLESS, ENDLESS, ENDLESS);
        always(SIGNED, LEAST, MINUS, MINUS + LEAST_ONE, MINUS + LEAST_ONE);
        always(SIGNED, MOST, MINUS, MINUS + LEAST_ONE, MINUS);
        always(SIGNED, LEAST, MINUS, LEAST_ONE, MINUS);
        always(UNSIGNED, LEAST, 0, 0, 0);
        noCounts();
    }

    private static void fusedRoundedOnce() {
        makeFormats();
        check.sentence("Terms 2 and promise 9", "FUSED: a times b and c, exact, rounded once");
        // 25/16 less 3/2 is 1/16; 15 is above GREAT, 15 less 1 is GREAT.
        fusedAlways(13, 13, MINUS + 14, LEAST_ONE);
        fusedAlways(FIVE, THREE, MINUS + ONE, GREAT);
        fusedAlways(MINUS + FIVE, THREE, ONE, MINUS + GREAT);
        noCounts();
        // 15 less 2 is the middle between 12 and 14; 1 and 1/256 lies just above 1.
        fused(SIGNED, FIVE, THREE, MINUS + 16, 26, 27, 26, 26, 27, 27);
        fused(SIGNED, LEAST_ONE, LEAST_ONE, ONE, 12, 12, 12, 12, 13, 13);
        fused(SIGNED, LEAST_ONE, MINUS + LEAST_ONE, ONE, 12, 12, 11, 11, 12, 11);
        fused(SIGNED, LEAST_ONE, MINUS + LEAST_ONE, 0, 32, 32, 32, 33, 32, 33);
        check.counts(x, "of inexact ones", 24, 0, 0);
        fused(SIGNED, GREAT, ONE, ONE, 28, 28, 27, 27, 28, 27);
        fused(SIGNED, GREAT, ONE, ONE - 1, 27, 27, 27, 27, 28, 27);
        fused(SIGNED, GREAT, MINUS + GREAT, GREAT, 60, 60, 59, 60, 59, 59);
        check.counts(x, "of ones above GREAT", 42, 18, 0);
        fused(UNSIGNED, 1, 1, 0, 0, 0, 0, 0, 1, 1);
        fused(PLAIN, 7, 15, 7, 15, 15, 15, 15, 15, 15);
        fused(ONE_TOP, 6, 14, 0, 7, 7, 14, 7, 14, 7);
        check.counts(x, "of other formats", 60, 30, 0);
    }

    private static void fusedNone() {
        makeFormats();
        check.sentence("Terms 2 and promise 9", "FUSED: NONE as PRODUCT, then SUM of that");
        for (int none : new int[] {29, 31, 61, 63}) {
            fusedAlways(none, ONE, ONE, NONE);
            fusedAlways(ONE, none, ONE, NONE);
            fusedAlways(ONE, ONE, none, NONE);
            fusedAlways(none, 0, MINUS + ENDLESS, NONE);
            fusedAlways(ENDLESS, none, MINUS + ENDLESS, NONE);
            fusedAlways(ENDLESS, ONE, none, NONE);
        }
        fused(ONE_TOP, 15, 1, 1, 7, 7, 7, 7, 7, 7);
        noCounts();
    }

    private static void fusedInvalid() {
        makeFormats();
        check.sentence("Terms 2 and promise 9", "FUSED: INVALID as PRODUCT, then SUM of that");
        int below = MINUS + ENDLESS;
        fusedAlways(ENDLESS, 0, ONE, NONE);
        fusedAlways(MINUS, below, ENDLESS, NONE);
        check.counts(x, "of INVALID PRODUCTS", 0, 0, 12);
        fusedAlways(ENDLESS, ONE, below, NONE);
        fusedAlways(ENDLESS, MINUS + ONE, ENDLESS, NONE);
        fusedAlways(below, below, below, NONE);
        check.counts(x, "of INVALID SUMS", 0, 0, 30);
        fusedAlways(ENDLESS, LEAST_ONE, MINUS + GREAT, ENDLESS);
        fusedAlways(0, GREAT, below, below);
        fusedAlways(GREAT, GREAT, below, below);
        check.counts(x, "of those that are fine", 0, 0, 30);
        check.refused(x, "7 times 0 of f 0", SmallFloats.INVALID, x.fused(NO_FRACTION, 7, 0, 1, EVEN));
        check.refused(x, "1 times 7 and 15 of f 0", SmallFloats.INVALID, x.fused(NO_FRACTION, 1, 7, 15, EVEN));
        check.counts(x, "of refused ones", 0, 0, 32);
        check.fine(x, "1 times 7 and 14 of f 0", 7, x.fused(NO_FRACTION, 1, 7, 14, ODD));
    }

    private static void fusedEndless() {
        makeFormats();
        check.sentence("Terms 2 and promise 9", "FUSED: ENDLESS likewise");
        int below = MINUS + ENDLESS;
        fusedAlways(ENDLESS, ONE, ONE, ENDLESS);
        fusedAlways(MINUS + ONE, ENDLESS, GREAT, below);
        fusedAlways(below, MINUS + LEAST_ONE, MINUS, ENDLESS);
        fusedAlways(ONE, ONE, ENDLESS, ENDLESS);
        fusedAlways(0, MINUS, below, below);
        fusedAlways(below, below, ENDLESS, ENDLESS);
        fusedAlways(ENDLESS, below, below, below);
        fused(UNSIGNED, 28, 1, 0, 28, 28, 28, 28, 28, 28);
        noCounts();
    }

    private static void fusedZero() {
        makeFormats();
        check.sentence("Terms 2 and promise 9", "a result 0: as SUM of the PRODUCT (with its sign, if that is 0) and c");
        fusedAlways(0, ONE, 0, 0);
        fusedAlways(MINUS, MINUS + ONE, 0, 0);
        fusedAlways(MINUS, ONE, MINUS, MINUS);
        fusedAlways(0, MINUS + ONE, MINUS, MINUS);
        fused(SIGNED, 0, MINUS, 0, 0, 0, 0, MINUS, 0, 0);
        fused(SIGNED, MINUS, MINUS, MINUS, 0, 0, 0, MINUS, 0, 0);
        fused(SIGNED, ONE, ONE, MINUS + ONE, 0, 0, 0, MINUS, 0, 0);
        fused(SIGNED, MINUS + GREAT, ONE, GREAT, 0, 0, 0, MINUS, 0, 0);
        fused(UNSIGNED, 0, ONE, 0, 0, 0, 0, 0, 0, 0);
        noCounts();
    }
}
