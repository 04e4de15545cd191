/** Terms 3 on SUM and DOT and promises 19 and 20, sentence by sentence. */
public final class TotalBoundsTest {
    private static final Check check = new Check("TotalBoundsTest");
    private static final int EVEN = 0, IN = 2, DOWN = 3, UP = 4;
    // Numbers of makeFormats().
    private static final int SIGNED = 0, ONE_TOP = 1, NO_FRACTION = 2, UNSIGNED = 3, PLAIN = 4, LARGE = 5;
    // Codes of SIGNED: the least NUMBER is 1/16, GREAT 14.
    private static final int LEAST_ONE = 1, ONE = 12, TWO = 16, GREAT = 27, ENDLESS = 28, NONE = 30, MINUS = 32;
    private static final int BELOW = MINUS + ENDLESS;
    private static SmallFloats x;

    public static void main(String[] args) {
        sumRoundedOnce();
        sumLessThanZeroByOneUnit();
        sumOfNoCodes();
        sumThatIsZero();
        sumOfSixteen();
        sumFirstNone();
        sumFirstInvalid();
        sumOfEndless();
        sumAboveGreat();
        sumRefused();
        stepwiseSumFromZero();
        stepwiseSumRounded();
        stepwiseSumAboveGreat();
        stepwiseSumOfNone();
        stepwiseSumRefused();
        dotRoundedOnce();
        dotOfTheShorter();
        dotThatIsZero();
        dotOfSixteen();
        dotFirstNone();
        dotFirstInvalid();
        dotOfEndless();
        dotRefused();
        stepwiseDotRounded();
        stepwiseDotFromZero();
        stepwiseDotOfTheShorter();
        stepwiseDotOfNone();
        stepwiseDotRefused();
        dotOfOneFormat();
        totalsChangeNoRow();
        check.end();
    }

    private static void makeFormats() {
        x = new SmallFloats();
        x.format(1, 3, 2, 3, true, 0);
        x.format(1, 2, 1, 1, true, 1);
        x.format(1, 3, 0, 3, true, 0);
        x.format(0, 2, 1, 1, true, 2);
        x.format(1, 2, 1, 1, true, 2);
        x.format(1, 4, 5, 0, true, 2);
    }

    private static void fill(int row, int format, int... codes) {
        Scene.fill(x, row, format, codes);
        check.due("told() after the last put", 0, x.told());
    }

    private static void sum(boolean stepwise, int... want) {
        for (int mode = 0; mode < 6; mode++) {
            check.fine(x, "sum(0, " + mode + ", " + stepwise + ")", want[mode], x.sum(0, mode, stepwise));
        }
    }

    private static void dot(boolean stepwise, int... want) {
        for (int mode = 0; mode < 6; mode++) {
            check.fine(x, "dot(0, 1, " + mode + ", " + stepwise + ")", want[mode], x.dot(0, 1, mode, stepwise));
        }
    }

    private static void sumAlways(boolean stepwise, int want) {
        sum(stepwise, want, want, want, want, want, want);
    }

    private static void dotAlways(boolean stepwise, int want) {
        dot(stepwise, want, want, want, want, want, want);
    }

    private static void noCounts() {
        check.counts(x, "nothing is COUNTED", 0, 0, 0);
    }

    private static void sumRoundedOnce() {
        makeFormats();
        check.sentence("Terms 3 and promise 19", "SUM of a ROW, EXACT: rounded once");
        fill(0, SIGNED, GREAT, GREAT, MINUS + GREAT, LEAST_ONE, MINUS + GREAT);
        sumAlways(false, LEAST_ONE);
        noCounts();
        // 2 and four sixteenths is the middle between 2 and 5/2, three lie below it, five above.
        fill(0, SIGNED, TWO, 1, 1, 1);
        sum(false, 16, 16, 16, 16, 17, 17);
        fill(0, SIGNED, TWO, 1, 1, 1, 1);
        sum(false, 16, 17, 16, 16, 17, 17);
        fill(0, SIGNED, 1, 1, 1, 1, 1, TWO);
        sum(false, 17, 17, 16, 16, 17, 17);
        fill(0, SIGNED, MINUS + TWO, 33, 33, 33, 33);
        sum(false, 48, 49, 48, 49, 48, 49);
        check.counts(x, "one for each", 24, 0, 0);
    }

    private static void sumLessThanZeroByOneUnit() {
        makeFormats();
        check.sentence("Terms 2 and 3", "SUM, DOT, EXACT: rounded once (one UNIT, or less, below 0)");
        x.format(1, 2, 2, 1, false, 0);
        fill(0, 6, 1, 16 + 2);
        sum(false, 16, 16, 16, 17, 16, 17);
        // 48 less 49 of 1/64 is -1/8 of a UNIT.
        fill(0, 6, 2, 3);
        fill(1, 6, 4, 16 + 3);
        dot(false, 16, 16, 16, 17, 16, 17);
        check.counts(x, "one for each", 12, 0, 0);
    }

    private static void sumOfNoCodes() {
        makeFormats();
        check.sentence("Terms 3", "An EXACT SUM that is 0 is ZERO, minus by DOWN if there is a CODE in it (there is none)");
        for (int format = 0; format < 6; format++) {
            fill(0, format);
            sumAlways(false, 0);
        }
        fill(0, SIGNED);
        sumAlways(true, 0);
        noCounts();
    }

    private static void sumThatIsZero() {
        makeFormats();
        check.sentence("Terms 3", "An EXACT SUM that is 0 is ZERO, minus by DOWN if there is a CODE in it");
        int[][] rows = {{0}, {MINUS}, {MINUS, MINUS}, {0, 0}, {ONE, MINUS + ONE}, {MINUS, 0}, {1, 33, MINUS}};
        for (int[] codes : rows) {
            fill(0, SIGNED, codes);
            sum(false, 0, 0, 0, MINUS, 0, 0);
        }
        fill(0, UNSIGNED, 0, 0);
        sumAlways(false, 0);
        noCounts();
    }

    private static void sumOfSixteen() {
        makeFormats();
        check.sentence("Terms 3", "SUM of a ROW with 16 CODES");
        x.row(0, SIGNED, 16);
        for (int i = 0; i < 16; i++) {
            x.put(0, i, LEAST_ONE);
        }
        sumAlways(false, ONE);
        noCounts();
        // From 1/2 on a sixteenth is the middle between two NUMBERS, from 1 on it is less.
        sum(true, 8, 12, 8, 8, 16, 9);
        check.counts(x, "eight steps for each", 48, 0, 0);
        makeFormats();
        x.row(0, LARGE, 16);
        for (int i = 0; i < 16; i++) {
            x.put(0, i, i < 8 ? 511 : 1023);
        }
        sum(false, 0, 0, 0, 512, 0, 0);
        x.put(0, 15, 1);
        check.fine(x, "GREAT and the least one", 511, x.sum(0, IN, false));
        check.counts(x, "above GREAT by the least one", 1, 1, 0);
    }

    private static void sumFirstNone() {
        makeFormats();
        check.sentence("Terms 3", "the first that is NONE, not COUNTED, .. is it");
        int[][] rows = {{29}, {63}, {ONE, 61, ONE}, {ENDLESS, 29, BELOW}, {31, ENDLESS, BELOW}, {GREAT, GREAT, 29}};
        for (int[] codes : rows) {
            fill(0, SIGNED, codes);
            sumAlways(false, NONE);
        }
        fill(0, ONE_TOP, 6, 6, 15);
        sumAlways(false, 7);
        noCounts();
    }

    private static void sumFirstInvalid() {
        makeFormats();
        check.sentence("Terms 3", "the first that is .. INVALID, is it");
        int[][] rows = {{ENDLESS, BELOW}, {BELOW, ONE, ENDLESS}, {ENDLESS, BELOW, 29}, {BELOW, ENDLESS, ENDLESS, BELOW}};
        for (int i = 0; i < rows.length; i++) {
            fill(0, SIGNED, rows[i]);
            sumAlways(false, NONE);
            check.counts(x, "one for each", 0, 0, 6 * i + 6);
        }
    }

    private static void sumOfEndless() {
        makeFormats();
        check.sentence("Terms 3", "ENDLESS by signs");
        int[][] rows = {{ENDLESS}, {ENDLESS, ENDLESS}, {MINUS + GREAT, ENDLESS}, {GREAT, GREAT, ENDLESS}, {ENDLESS, MINUS}};
        for (int[] codes : rows) {
            fill(0, SIGNED, codes);
            sumAlways(false, ENDLESS);
            for (int i = 0; i < codes.length; i++) {
                x.put(0, i, codes[i] ^ MINUS);
            }
            sumAlways(false, BELOW);
        }
        noCounts();
    }

    private static void sumAboveGreat() {
        makeFormats();
        check.sentence("Terms 2 and 3", "SUM of a ROW, EXACT: above GREAT once");
        fill(0, SIGNED, GREAT, GREAT, GREAT);
        sum(false, 28, 28, 27, 27, 28, 27);
        check.counts(x, "one for each", 6, 6, 0);
        fill(0, SIGNED, GREAT, ONE);
        sum(false, 28, 28, 27, 27, 28, 27);
        fill(0, SIGNED, GREAT, ONE - 1);
        sum(false, 27, 27, 27, 27, 28, 27);
        check.counts(x, "at the middle above GREAT, and just below it", 18, 18, 0);
        fill(0, PLAIN, 15, 15);
        sumAlways(false, 15);
        fill(0, ONE_TOP, 14, 14);
        sum(false, 7, 7, 14, 7, 14, 7);
        check.counts(x, "of other TOPS", 30, 30, 0);
    }

    private static void sumRefused() {
        makeFormats();
        check.sentence("Promise 19", "INVALID");
        fill(0, NO_FRACTION, 6, 6, 7, 15, 15, 7);
        check.refused(x, "ENDLESS less ENDLESS of f 0", SmallFloats.INVALID, x.sum(0, EVEN, false));
        check.counts(x, "just one", 0, 0, 1);
        x.put(0, 3, 7);
        x.put(0, 4, 0);
        check.fine(x, "ENDLESS alone", 7, x.sum(0, EVEN, false));
        check.counts(x, "no other", 0, 0, 1);
    }

    private static void stepwiseSumFromZero() {
        makeFormats();
        check.sentence("Terms 3", "STEPWISE: from ZERO on");
        fill(0, SIGNED, 0);
        sumAlways(true, 0);
        fill(0, SIGNED, MINUS);
        sum(true, 0, 0, 0, MINUS, 0, 0);
        fill(0, SIGNED, MINUS, MINUS);
        sum(true, 0, 0, 0, MINUS, 0, 0);
        fill(0, SIGNED, MINUS, 0);
        sum(true, 0, 0, 0, MINUS, 0, 0);
        fill(0, SIGNED, 0, 0);
        sumAlways(true, 0);
        fill(0, SIGNED, ONE, MINUS + ONE);
        sum(true, 0, 0, 0, MINUS, 0, 0);
        fill(0, SIGNED, MINUS + ONE);
        sumAlways(true, MINUS + ONE);
        noCounts();
    }

    private static void stepwiseSumRounded() {
        makeFormats();
        check.sentence("Terms 3", "STEPWISE: .. each SUM rounded");
        fill(0, SIGNED, TWO, 1, 1, 1, 1);
        sum(true, 16, 16, 16, 16, 20, 17);
        check.counts(x, "each step", 24, 0, 0);
        fill(0, SIGNED, 1, 1, 1, 1, TWO);
        sum(true, 16, 17, 16, 16, 17, 17);
        check.counts(x, "the last step alone", 30, 0, 0);
    }

    private static void stepwiseSumAboveGreat() {
        makeFormats();
        check.sentence("Terms 2 and 3", "STEPWISE: .. each SUM rounded, above GREAT, too");
        fill(0, SIGNED, GREAT, GREAT, MINUS + GREAT);
        // ENDLESS less GREAT is ENDLESS, GREAT less GREAT is ZERO.
        sum(true, 28, 28, 0, MINUS, 28, 0);
        check.counts(x, "the first of both steps", 6, 6, 0);
        fill(0, PLAIN, 7, 7, 7, 15);
        sum(true, 0, 0, 0, 8, 0, 0);
        check.counts(x, "two of four steps", 18, 18, 0);
        sumAlways(false, 7);
        check.counts(x, "the exact sum is above GREAT once", 24, 24, 0);
        fill(0, ONE_TOP, 6, 6, 1, 14);
        // 4 and 4, then 4 and 1/2 is above GREAT by IN and DOWN; by the others the first is THE NONE, which stays.
        sum(true, 7, 7, 0, 8, 7, 7);
        check.counts(x, "two for IN and DOWN, one for each other", 32, 32, 0);
    }

    private static void stepwiseSumOfNone() {
        makeFormats();
        check.sentence("Terms 2 and 3", "STEPWISE: each SUM as an ACT: NONE, INVALID is THE NONE");
        fill(0, SIGNED, ENDLESS, 61, BELOW);
        sumAlways(true, NONE);
        noCounts();
        fill(0, SIGNED, ENDLESS, BELOW, ENDLESS, BELOW);
        sumAlways(true, NONE);
        check.counts(x, "INVALID once, for THE NONE stays", 0, 0, 6);
        fill(0, SIGNED, GREAT, GREAT, BELOW);
        check.fine(x, "14 and 14 is ENDLESS already", NONE, x.sum(0, EVEN, true));
        check.fine(x, "14 and 14 is GREAT", BELOW, x.sum(0, IN, true));
        check.fine(x, "exact they are NUMBERS", BELOW, x.sum(0, EVEN, false));
        check.counts(x, "of these", 2, 2, 7);
    }

    private static void stepwiseSumRefused() {
        makeFormats();
        check.sentence("Promise 19", "INVALID (STEPWISE: at the first)");
        fill(0, NO_FRACTION, 6, 6, 15, 7, 15);
        check.refused(x, "8 and 8 is ENDLESS", SmallFloats.INVALID, x.sum(0, EVEN, true));
        check.counts(x, "what was met before is not COUNTED", 0, 0, 1);
        check.refused(x, "8 and 8 is GREAT", SmallFloats.INVALID, x.sum(0, IN, true));
        check.counts(x, "one more", 0, 0, 2);
        x.put(0, 3, 0);
        check.fine(x, "8 and 8 is GREAT, and minus ENDLESS", 15, x.sum(0, IN, true));
        check.counts(x, "of one that is fine", 1, 1, 2);
    }

    private static void dotRoundedOnce() {
        makeFormats();
        check.sentence("Terms 3 and promise 20", "DOT of two (the i-th with the i-th), EXACT: rounded once");
        fill(0, SIGNED, 13, 13, TWO);
        fill(1, SIGNED, 13, MINUS + 14, ONE);
        // 25/16 less 30/16 and 2 is 27/16: between 3/2 and 7/4, above the middle.
        dot(false, 15, 15, 14, 14, 15, 15);
        check.counts(x, "one for each", 6, 0, 0);
        fill(0, SIGNED, 13, GREAT, GREAT);
        fill(1, SIGNED, 13, GREAT, MINUS + GREAT);
        dot(false, 14, 14, 14, 14, 15, 15);
        check.counts(x, "none above GREAT", 12, 0, 0);
        fill(0, SIGNED, 13, 13);
        fill(1, SIGNED, 13, MINUS + 14);
        dotAlways(false, MINUS + 5);
        check.counts(x, "-5/16 is a NUMBER", 12, 0, 0);
        fill(0, SIGNED, LEAST_ONE);
        fill(1, SIGNED, LEAST_ONE);
        dot(false, 0, 0, 0, 0, 1, 1);
        fill(0, SIGNED, LEAST_ONE, LEAST_ONE);
        fill(1, SIGNED, 8, MINUS + LEAST_ONE);
        dot(false, 0, 0, 0, 0, 1, 1);
        fill(1, SIGNED, 8, LEAST_ONE);
        dot(false, 1, 1, 0, 0, 1, 1);
        check.counts(x, "about half of the least one", 30, 0, 0);
    }

    private static void dotOfTheShorter() {
        makeFormats();
        check.sentence("Terms 3", "as many as the shorter one has");
        fill(0, SIGNED, ONE, TWO, 29);
        fill(1, SIGNED, ONE, TWO);
        dotAlways(false, 21);
        check.fine(x, "the shorter one first", 21, x.dot(1, 0, EVEN, false));
        fill(1, SIGNED, ONE);
        dotAlways(false, ONE);
        fill(1, SIGNED);
        dotAlways(false, 0);
        check.fine(x, "the one with no code first", 0, x.dot(1, 0, DOWN, false));
        fill(1, SIGNED, 0, 0, 0, ENDLESS);
        check.fine(x, "with 3 of 4", NONE, x.dot(0, 1, EVEN, false));
        noCounts();
    }

    private static void dotThatIsZero() {
        makeFormats();
        check.sentence("Terms 3", "An EXACT DOT that is 0 is ZERO, minus by DOWN if there is a CODE in it");
        fill(1, SIGNED, ONE, ONE);
        int[][] rows = {{0}, {MINUS}, {MINUS, MINUS}, {0, MINUS}, {ONE, MINUS + ONE}, {MINUS + GREAT, GREAT, ONE}};
        for (int[] codes : rows) {
            fill(0, SIGNED, codes);
            dot(false, 0, 0, 0, MINUS, 0, 0);
        }
        fill(0, SIGNED);
        dotAlways(false, 0);
        fill(0, UNSIGNED, 0);
        fill(1, UNSIGNED, 7);
        dotAlways(false, 0);
        noCounts();
    }

    private static void dotOfSixteen() {
        makeFormats();
        check.sentence("Terms 3", "DOT of two ROWS with 16 CODES");
        x.row(0, LARGE, 16);
        x.row(1, LARGE, 16);
        for (int i = 0; i < 16; i++) {
            x.put(0, i, i < 8 ? 511 : 1023);
            x.put(1, i, 511);
        }
        check.fine(x, "of both signs", 512, x.dot(0, 1, DOWN, false));
        noCounts();
        x.put(1, 15, 1);
        check.fine(x, "one GREAT by GREAT more", 511, x.dot(0, 1, IN, false));
        check.fine(x, "of one sign", 511, x.dot(1, 1, EVEN, false));
        check.counts(x, "above GREAT", 2, 2, 0);
    }

    private static void dotFirstNone() {
        makeFormats();
        check.sentence("Terms 3", "DOT: the first that is NONE, not COUNTED, .. is it");
        fill(0, SIGNED, ONE, 29, ENDLESS, ENDLESS);
        fill(1, SIGNED, ONE, ONE, 0, BELOW);
        dotAlways(false, NONE);
        fill(0, SIGNED, ONE, 0, ENDLESS);
        fill(1, SIGNED, ONE, 63, 0);
        dotAlways(false, NONE);
        fill(0, SIGNED, ENDLESS, 61);
        fill(1, SIGNED, ONE, 0);
        dotAlways(false, NONE);
        fill(0, SIGNED, 29);
        fill(1, SIGNED, ENDLESS);
        dotAlways(false, NONE);
        noCounts();
    }

    private static void dotFirstInvalid() {
        makeFormats();
        check.sentence("Terms 3", "DOT: the first that is .. INVALID, is it");
        fill(0, SIGNED, ONE, ENDLESS, 29, ENDLESS);
        fill(1, SIGNED, ONE, 0, ONE, 0);
        dotAlways(false, NONE);
        check.counts(x, "ENDLESS times ZERO", 0, 0, 6);
        fill(0, SIGNED, MINUS, 29);
        fill(1, SIGNED, BELOW, 29);
        dotAlways(false, NONE);
        check.counts(x, "ZERO times ENDLESS", 0, 0, 12);
        fill(0, SIGNED, ENDLESS, BELOW, 29);
        fill(1, SIGNED, ONE, ONE, 0);
        dotAlways(false, NONE);
        check.counts(x, "ENDLESS ones of both signs", 0, 0, 18);
    }

    private static void dotOfEndless() {
        makeFormats();
        check.sentence("Terms 3", "DOT: ENDLESS by signs");
        fill(0, SIGNED, ONE, ENDLESS, BELOW);
        fill(1, SIGNED, GREAT, ONE, MINUS + LEAST_ONE);
        dotAlways(false, ENDLESS);
        fill(1, SIGNED, GREAT, BELOW, ENDLESS);
        dotAlways(false, BELOW);
        fill(0, SIGNED, GREAT, MINUS + LEAST_ONE);
        fill(1, SIGNED, GREAT, ENDLESS);
        dotAlways(false, BELOW);
        noCounts();
    }

    private static void dotRefused() {
        makeFormats();
        check.sentence("Promise 20", "INVALID");
        fill(0, NO_FRACTION, 6, 6, 7);
        fill(1, NO_FRACTION, 6, 6, 8);
        check.refused(x, "ENDLESS times ZERO of f 0", SmallFloats.INVALID, x.dot(0, 1, EVEN, false));
        check.counts(x, "just one", 0, 0, 1);
        fill(0, NO_FRACTION, 7, 7, 6);
        fill(1, NO_FRACTION, 6, 14, 6);
        check.refused(x, "ENDLESS ones of both signs", SmallFloats.INVALID, x.dot(0, 1, UP, false));
        check.counts(x, "just one", 0, 0, 2);
        fill(1, NO_FRACTION, 6, 6, 8);
        check.fine(x, "ENDLESS ones of one sign", 7, x.dot(0, 1, UP, false));
        check.counts(x, "no other", 0, 0, 2);
    }

    private static void stepwiseDotRounded() {
        makeFormats();
        check.sentence("Terms 3", "STEPWISE: each SUM (of the PRODUCT, rounded) rounded");
        fill(0, SIGNED, LEAST_ONE, LEAST_ONE);
        fill(1, SIGNED, LEAST_ONE, LEAST_ONE);
        dot(true, 0, 0, 0, 0, 2, 2);
        check.counts(x, "both PRODUCTS", 12, 0, 0);
        fill(0, SIGNED, TWO, LEAST_ONE);
        fill(1, SIGNED, ONE, ONE);
        dot(true, 16, 16, 16, 16, 17, 17);
        check.counts(x, "the last SUM alone", 18, 0, 0);
        fill(0, SIGNED, TWO, LEAST_ONE);
        fill(1, SIGNED, ONE, LEAST_ONE);
        dot(true, 16, 16, 16, 16, 17, 17);
        check.counts(x, "the PRODUCT and, unless that is ZERO, the SUM", 26, 0, 0);
        fill(0, SIGNED, GREAT, GREAT);
        fill(1, SIGNED, TWO, MINUS + TWO);
        dot(true, NONE, NONE, 0, 60, 28, 0);
        check.counts(x, "both PRODUCTS above GREAT", 38, 12, 2);
    }

    private static void stepwiseDotFromZero() {
        makeFormats();
        check.sentence("Terms 3", "STEPWISE: from ZERO on (DOT)");
        fill(0, SIGNED, 0);
        fill(1, SIGNED, ONE);
        dotAlways(true, 0);
        fill(1, SIGNED, MINUS + ONE);
        dot(true, 0, 0, 0, MINUS, 0, 0);
        fill(0, SIGNED, MINUS);
        dotAlways(true, 0);
        fill(0, SIGNED);
        dotAlways(true, 0);
        noCounts();
    }

    private static void stepwiseDotOfTheShorter() {
        makeFormats();
        check.sentence("Terms 3", "as many as the shorter one has (STEPWISE)");
        fill(0, SIGNED, ONE, TWO, 29);
        fill(1, SIGNED, ONE, TWO);
        dotAlways(true, 21);
        check.fine(x, "the shorter one first", 21, x.dot(1, 0, EVEN, true));
        fill(1, SIGNED, ONE);
        dotAlways(true, ONE);
        noCounts();
    }

    private static void stepwiseDotOfNone() {
        makeFormats();
        check.sentence("Terms 2 and 3", "STEPWISE: each PRODUCT and SUM as an ACT: NONE, INVALID is THE NONE");
        fill(0, SIGNED, ONE, 29, ONE);
        fill(1, SIGNED, ONE, ONE, ONE);
        dotAlways(true, NONE);
        noCounts();
        fill(0, SIGNED, ENDLESS, ONE);
        fill(1, SIGNED, 0, ONE);
        dotAlways(true, NONE);
        check.counts(x, "of one PRODUCT", 0, 0, 6);
        fill(0, SIGNED, ENDLESS, BELOW);
        fill(1, SIGNED, ONE, ONE);
        dotAlways(true, NONE);
        check.counts(x, "of one SUM", 0, 0, 12);
        check.sentence("Promise 23", "2 INVALID (each that was met)");
        fill(0, SIGNED, ENDLESS, BELOW, ENDLESS, MINUS);
        fill(1, SIGNED, ONE, ONE, 0, BELOW);
        dotAlways(true, NONE);
        check.counts(x, "of one SUM and two PRODUCTS", 0, 0, 30);
    }

    private static void stepwiseDotRefused() {
        makeFormats();
        check.sentence("Promise 20", "INVALID (likewise: STEPWISE: at the first)");
        fill(0, NO_FRACTION, 6, 6, 7, 7);
        fill(1, NO_FRACTION, 6, 6, 8, 8);
        check.refused(x, "a PRODUCT", SmallFloats.INVALID, x.dot(0, 1, EVEN, true));
        check.counts(x, "just that one", 0, 0, 1);
        fill(1, NO_FRACTION, 6, 14, 8, 8);
        check.refused(x, "a SUM of two that were above GREAT", SmallFloats.INVALID, x.dot(0, 1, EVEN, true));
        check.counts(x, "just that one", 0, 0, 2);
        fill(1, NO_FRACTION, 6, 6);
        check.fine(x, "with none", 7, x.dot(0, 1, EVEN, true));
        check.counts(x, "of a call that is fine", 2, 2, 2);
    }

    private static void dotOfOneFormat() {
        makeFormats();
        check.sentence("Promise 20", "DOT of two ROWS of one FORMAT; STATE: of two");
        fill(0, SIGNED, ONE);
        fill(1, PLAIN, 2);
        fill(2, SIGNED, TWO);
        for (int way = 0; way < 2; way++) {
            check.refused(x, "of two", SmallFloats.STATE, x.dot(0, 1, EVEN, way == 0));
            check.refused(x, "of two, turned", SmallFloats.STATE, x.dot(1, 2, EVEN, way == 0));
            check.fine(x, "of one", TWO, x.dot(0, 2, EVEN, way == 0));
            check.fine(x, "of one row", 20, x.dot(2, 2, EVEN, way == 0));
        }
        fill(1, PLAIN);
        check.refused(x, "of two, with no code", SmallFloats.STATE, x.dot(0, 1, EVEN, false));
        // A format made anew is the one that is there.
        check.fine(x, "alike", SIGNED, x.format(1, 3, 2, 3, true, 0));
        fill(1, SIGNED, ONE);
        check.fine(x, "of one that was made anew", ONE, x.dot(0, 1, EVEN, false));
    }

    private static void totalsChangeNoRow() {
        makeFormats();
        check.sentence("Promises 19 and 20", "SUM of a ROW: its CODE (the ROWS stay as they are)");
        fill(0, SIGNED, GREAT, GREAT, MINUS);
        fill(1, SIGNED, ONE, 29);
        x.sum(0, EVEN, true);
        x.dot(0, 1, EVEN, true);
        x.dot(1, 0, EVEN, false);
        int[] due = {GREAT, GREAT, MINUS};
        for (int i = 0; i < 3; i++) {
            check.fine(x, "at(0, " + i + ")", due[i], x.at(0, i));
        }
        check.fine(x, "at(1, 0)", ONE, x.at(1, 0));
        check.fine(x, "at(1, 1)", 29, x.at(1, 1));
    }
}
