/** Promises 8 and 9: act and fused. */
public final class ActTest {
    private static final Check check = new Check("ActTest");
    private static final int SUM = 0, DIFFERENCE = 1, PRODUCT = 2, QUOTIENT = 3, ROOT = 4, LEAST = 5, MOST = 6;
    // Codes of the format 1, 3, 2, bias 3, subnormals, TOP 0.
    private static final int ONE = 12, TWO = 16, GREAT = 27, ENDLESS = 28, NONE = 30, MINUS = 32;
    private static SmallFloats x;

    public static void main(String[] args) {
        numbers();
        roots();
        zeros();
        endless();
        invalid();
        none();
        leastAndMost();
        withoutSign();
        otherTops();
        fusedNumbers();
        fusedOthers();
        refused();
        check.end();
    }

    private static void makeFormats() {
        x = new SmallFloats();
        x.format(1, 3, 2, 3, true, 0);
        x.format(0, 3, 2, 3, true, 0);
        x.format(1, 2, 1, 1, true, 1);
        x.format(1, 2, 1, 1, true, 2);
        x.format(1, 3, 0, 3, true, 0);
    }

    private static void due(int format, int what, int a, int b, int mode, int want) {
        String call = "act(" + format + ", " + what + ", " + a + ", " + b + ", " + mode + ")";
        check.due(call, want, x.act(format, what, a, b, mode));
        check.due("told() after " + call, 0, x.told());
    }

    /** The same answer by every mode. */
    private static void always(int format, int what, int a, int b, int want) {
        for (int mode = 0; mode < 6; mode++) {
            due(format, what, a, b, mode, want);
        }
    }

    private static void byModes(int format, int what, int a, int b, int... want) {
        for (int mode = 0; mode < want.length; mode++) {
            due(format, what, a, b, mode, want[mode]);
        }
    }

    private static void fused(int format, int a, int b, int c, int... want) {
        for (int mode = 0; mode < want.length; mode++) {
            String call = "fused(" + format + ", " + a + ", " + b + ", " + c + ", " + mode + ")";
            check.due(call, want[mode], x.fused(format, a, b, c, mode));
            check.due("told() after " + call, 0, x.told());
        }
    }

    private static void numbers() {
        makeFormats();
        always(0, SUM, ONE, ONE, TWO);
        always(0, DIFFERENCE, TWO, ONE, ONE);
        always(0, DIFFERENCE, ONE, TWO, ONE + MINUS);
        always(0, PRODUCT, ONE + MINUS, TWO, TWO + MINUS);
        always(0, QUOTIENT, TWO + MINUS, TWO + MINUS, ONE);
        always(0, ROOT, 20, 0, TWO);
        check.counts(x, "after exact acts", 0, 0, 0);
        byModes(0, SUM, TWO, 1, 16, 16, 16, 16, 17, 17);
        byModes(0, DIFFERENCE, TWO, 1, 16, 16, 15, 15, 16, 15);
        byModes(0, SUM, TWO, 4, 16, 17, 16, 16, 17, 17);
        byModes(0, PRODUCT, 13, 13, 14, 14, 14, 14, 15, 15);
        byModes(0, PRODUCT, 13, 13 + MINUS, 46, 46, 46, 47, 46, 47);
        byModes(0, QUOTIENT, ONE, 18, 5, 5, 5, 5, 6, 5);
        byModes(0, ROOT, TWO, 999, 14, 14, 13, 13, 14, 13);
        check.counts(x, "after inexact acts", 42, 0, 0);
        byModes(0, SUM, GREAT, GREAT, 28, 28, 27, 27, 28, 27);
        byModes(0, PRODUCT, GREAT, TWO + MINUS, 60, 60, 59, 60, 59, 59);
        byModes(0, QUOTIENT, GREAT, 1, 28, 28, 27, 27, 28, 27);
        check.counts(x, "after acts above GREAT", 60, 18, 0);
        byModes(0, PRODUCT, 1, 1 + MINUS, 32, 32, 32, 33, 32, 33);
        check.counts(x, "after acts below the least NUMBER", 66, 18, 0);
    }

    /** In this format the root of code m lies at twice the root of m, in codes: 2 times 3.46 for 12. */
    private static void roots() {
        x = new SmallFloats();
        x.format(1, 1, 3, 0, true, 2);
        always(0, ROOT, 4, 0, 4);
        always(0, ROOT, 9, 0, 6);
        check.counts(x, "after exact roots", 0, 0, 0);
        byModes(0, ROOT, 11, 0, 7, 7, 6, 6, 7, 7);
        byModes(0, ROOT, 12, 0, 7, 7, 6, 6, 7, 7);
        byModes(0, ROOT, 13, 0, 7, 7, 7, 7, 8, 7);
        byModes(0, ROOT, 14, 0, 7, 7, 7, 7, 8, 7);
        check.counts(x, "after inexact roots", 24, 0, 0);
        // The root of 8 units is 5.66 units, between 5 and 6.
        x.format(1, 2, 2, 0, false, 0);
        byModes(1, ROOT, 4, 0, 2, 2, 1, 1, 2, 1);
    }

    private static void zeros() {
        makeFormats();
        always(0, SUM, 0, 0, 0);
        always(0, SUM, MINUS, MINUS, MINUS);
        byModes(0, SUM, 0, MINUS, 0, 0, 0, MINUS, 0, 0);
        byModes(0, SUM, MINUS, 0, 0, 0, 0, MINUS, 0, 0);
        byModes(0, SUM, ONE, ONE + MINUS, 0, 0, 0, MINUS, 0, 0);
        byModes(0, SUM, ONE + MINUS, ONE, 0, 0, 0, MINUS, 0, 0);
        byModes(0, DIFFERENCE, ONE + MINUS, ONE + MINUS, 0, 0, 0, MINUS, 0, 0);
        byModes(0, DIFFERENCE, 0, 0, 0, 0, 0, MINUS, 0, 0);
        always(0, DIFFERENCE, 0, MINUS, 0);
        always(0, DIFFERENCE, MINUS, 0, MINUS);
        byModes(0, DIFFERENCE, MINUS, MINUS, 0, 0, 0, MINUS, 0, 0);
        always(0, SUM, MINUS, ONE, ONE);
        always(0, PRODUCT, 0, ONE + MINUS, MINUS);
        always(0, PRODUCT, MINUS, ONE + MINUS, 0);
        always(0, PRODUCT, MINUS, 0, MINUS);
        always(0, QUOTIENT, 0, ONE + MINUS, MINUS);
        always(0, QUOTIENT, MINUS, ONE + MINUS, 0);
        always(0, ROOT, 0, 0, 0);
        always(0, ROOT, MINUS, 0, MINUS);
        always(0, QUOTIENT, ONE, 0, ENDLESS);
        always(0, QUOTIENT, ONE, MINUS, ENDLESS + MINUS);
        check.counts(x, "after zeros", 0, 0, 0);
    }

    private static void endless() {
        makeFormats();
        int below = ENDLESS + MINUS;
        always(0, SUM, ENDLESS, ENDLESS, ENDLESS);
        always(0, SUM, below, GREAT, below);
        always(0, SUM, GREAT, below, below);
        always(0, DIFFERENCE, ONE, ENDLESS, below);
        always(0, DIFFERENCE, ENDLESS, below, ENDLESS);
        always(0, PRODUCT, ENDLESS, ONE + MINUS, below);
        always(0, PRODUCT, below, below, ENDLESS);
        always(0, QUOTIENT, ONE, ENDLESS, 0);
        always(0, QUOTIENT, ONE, below, MINUS);
        always(0, QUOTIENT, MINUS, ENDLESS, MINUS);
        always(0, QUOTIENT, ENDLESS, ONE + MINUS, below);
        always(0, QUOTIENT, below, 0, below);
        always(0, QUOTIENT, ENDLESS, MINUS, below);
        always(0, ROOT, ENDLESS, 0, ENDLESS);
        check.counts(x, "after endless ones", 0, 0, 0);
    }

    private static void invalid() {
        makeFormats();
        int below = ENDLESS + MINUS;
        int[][] acts = {
            {SUM, ENDLESS, below}, {SUM, below, ENDLESS}, {DIFFERENCE, ENDLESS, ENDLESS}, {DIFFERENCE, below, below},
            {PRODUCT, ENDLESS, 0}, {PRODUCT, MINUS, below}, {QUOTIENT, ENDLESS, below}, {QUOTIENT, 0, MINUS},
            {QUOTIENT, 0, 0}, {ROOT, 33, 0}, {ROOT, below, 0},
        };
        for (int[] act : acts) {
            always(0, act[0], act[1], act[2], NONE);
        }
        check.counts(x, "after invalid ones", 0, 0, 6 * acts.length);
        // Format 4 has ENDLESS, but no NONE: 7 and 15 are its ENDLESS ones.
        check.refused(x, "7 and 15", SmallFloats.INVALID, x.act(4, SUM, 7, 15, 0));
        check.refused(x, "7 less 7", SmallFloats.INVALID, x.act(4, DIFFERENCE, 7, 7, 0));
        check.refused(x, "7 times 0", SmallFloats.INVALID, x.act(4, PRODUCT, 7, 0, 0));
        check.refused(x, "7 by 7", SmallFloats.INVALID, x.act(4, QUOTIENT, 7, 7, 0));
        check.refused(x, "root of 15", SmallFloats.INVALID, x.act(4, ROOT, 15, 0, 0));
        check.refused(x, "fused 7 times 0", SmallFloats.INVALID, x.fused(4, 7, 8, 0, 0));
        check.refused(x, "fused 7 and 15", SmallFloats.INVALID, x.fused(4, 7, 1, 15, 0));
        check.counts(x, "after refused ones", 0, 0, 6 * acts.length + 7);
    }

    private static void none() {
        makeFormats();
        for (int what = SUM; what <= MOST; what++) {
            due(0, what, 63, ONE, 0, NONE);
            due(0, what, 29, ENDLESS, 0, NONE);
            if (what != ROOT) {
                due(0, what, ONE, 61, 0, NONE);
            }
        }
        due(0, ROOT, ONE, 29, 0, ONE);
        due(2, SUM, 15, 0, 0, 7);
        check.counts(x, "after NONE ones", 0, 0, 0);
    }

    private static void leastAndMost() {
        makeFormats();
        always(0, LEAST, ONE, TWO, ONE);
        always(0, MOST, ONE, TWO, TWO);
        always(0, LEAST, TWO, ONE + MINUS, ONE + MINUS);
        always(0, LEAST, ONE + MINUS, TWO + MINUS, TWO + MINUS);
        always(0, MOST, ONE + MINUS, TWO + MINUS, ONE + MINUS);
        always(0, LEAST, ENDLESS + MINUS, GREAT + MINUS, ENDLESS + MINUS);
        always(0, MOST, ENDLESS, GREAT, ENDLESS);
        always(0, LEAST, ENDLESS, GREAT, GREAT);
        always(0, LEAST, 0, MINUS, MINUS);
        always(0, LEAST, MINUS, 0, MINUS);
        always(0, MOST, 0, MINUS, 0);
        always(0, MOST, MINUS, 0, 0);
        always(0, LEAST, MINUS, 1, MINUS);
        always(0, MOST, ONE, ONE, ONE);
        check.counts(x, "after LEAST and MOST", 0, 0, 0);
    }

    private static void withoutSign() {
        makeFormats();
        always(1, DIFFERENCE, 0, 0, 0);
        always(1, DIFFERENCE, ONE, ONE, 0);
        always(1, DIFFERENCE, ONE, ENDLESS, 0);
        check.counts(x, "without a sign, exact", 0, 0, 0);
        always(1, DIFFERENCE, ONE, TWO, 0);
        check.counts(x, "without a sign, below 0", 6, 0, 0);
        always(1, DIFFERENCE, ENDLESS, ENDLESS, NONE);
        check.counts(x, "without a sign, invalid", 6, 0, 6);
    }

    private static void otherTops() {
        makeFormats();
        always(2, QUOTIENT, 2, 0, 7);
        always(2, QUOTIENT, 10, 0, 7);
        always(3, QUOTIENT, 2, 0, 7);
        always(3, QUOTIENT, 2, 8, 15);
        check.counts(x, "after NUMBERS by ZERO", 0, 0, 0);
        always(2, QUOTIENT, 0, 0, 7);
        check.counts(x, "after ZERO by ZERO", 0, 0, 6);
        check.refused(x, "ZERO by ZERO of TOP 2", SmallFloats.INVALID, x.act(3, QUOTIENT, 0, 8, 0));
        check.refused(x, "ROOT of minus 1 of TOP 2", SmallFloats.INVALID, x.act(3, ROOT, 10, 0, 0));
        check.counts(x, "after refused ones", 0, 0, 8);
    }

    private static void fusedNumbers() {
        makeFormats();
        fused(0, ONE, TWO, ONE, 18, 18, 18, 18, 18, 18);
        fused(0, ONE, ONE, ONE + MINUS, 0, 0, 0, MINUS, 0, 0);
        fused(0, 0, ONE, 0, 0, 0, 0, 0, 0, 0);
        fused(0, MINUS, ONE, MINUS, MINUS, MINUS, MINUS, MINUS, MINUS, MINUS);
        fused(0, 0, ONE + MINUS, 0, 0, 0, 0, MINUS, 0, 0);
        fused(0, MINUS, TWO, ONE, ONE, ONE, ONE, ONE, ONE, ONE);
        check.counts(x, "after exact ones", 0, 0, 0);
        // 25/16 less 3/2 is 1/16, which rounding the product first would lose by IN.
        fused(0, 13, 13, 14 + MINUS, 1, 1, 1, 1, 1, 1);
        fused(0, 1, 1, 1, 1, 1, 1, 1, 2, 1);
        fused(0, 1, 1, 0, 0, 0, 0, 0, 1, 1);
        check.counts(x, "after inexact ones", 12, 0, 0);
        fused(0, GREAT, GREAT, ONE, 28, 28, 27, 27, 28, 27);
        check.counts(x, "after ones above GREAT", 18, 6, 0);
        fused(1, 13, ONE, 14, 18, 18, 17, 17, 18, 17);
    }

    private static void fusedOthers() {
        makeFormats();
        int below = ENDLESS + MINUS;
        fused(0, ENDLESS, ONE + MINUS, ONE, below, below, below, below, below, below);
        fused(0, ONE, ONE, below, below, below, below, below, below, below);
        fused(0, below, below, ENDLESS, 28, 28, 28, 28, 28, 28);
        fused(0, NONE, 0, ENDLESS, NONE, NONE);
        fused(0, 0, 63, ENDLESS, NONE, NONE);
        fused(0, ONE, 0, 61, NONE, NONE);
        fused(0, ENDLESS, 63, ONE, NONE, NONE);
        check.counts(x, "before invalid ones", 0, 0, 0);
        fused(0, ENDLESS, 0, ONE, NONE);
        fused(0, ENDLESS, ONE, below, NONE);
        check.counts(x, "after invalid ones", 0, 0, 2);
        fused(0, MINUS, ENDLESS, NONE, NONE);
        check.counts(x, "after an invalid PRODUCT and a NONE", 0, 0, 3);
    }

    private static void refused() {
        makeFormats();
        check.refused(x, "format", SmallFloats.BAD, x.act(5, SUM, 0, 0, 0));
        check.refused(x, "what -1", SmallFloats.BAD, x.act(0, -1, 0, 0, 0));
        check.refused(x, "what 7", SmallFloats.BAD, x.act(0, 7, 0, 0, 0));
        check.refused(x, "a", SmallFloats.BAD, x.act(0, SUM, 64, 0, 0));
        check.refused(x, "a of ROOT", SmallFloats.BAD, x.act(0, ROOT, -1, 0, 0));
        check.refused(x, "b", SmallFloats.BAD, x.act(0, SUM, 0, -1, 0));
        check.refused(x, "b of MOST", SmallFloats.BAD, x.act(0, MOST, 0, 64, 0));
        check.refused(x, "mode", SmallFloats.BAD, x.act(0, SUM, 0, 0, 6));
        check.refused(x, "mode of LEAST", SmallFloats.BAD, x.act(0, LEAST, 0, 0, -1));
        check.refused(x, "BAD ahead of INVALID", SmallFloats.BAD, x.act(3, QUOTIENT, 0, 0, 6));
        check.refused(x, "fused, format", SmallFloats.BAD, x.fused(-1, 0, 0, 0, 0));
        check.refused(x, "fused, a", SmallFloats.BAD, x.fused(0, -1, 0, 0, 0));
        check.refused(x, "fused, b", SmallFloats.BAD, x.fused(0, 0, 64, 0, 0));
        check.refused(x, "fused, c", SmallFloats.BAD, x.fused(0, 0, 0, 64, 0));
        check.refused(x, "fused, mode", SmallFloats.BAD, x.fused(0, 0, 0, 0, 6));
        check.counts(x, "after BAD ones", 0, 0, 0);
    }
}
