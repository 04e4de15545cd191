/** Promises 6 and 7: code and cross, and with them the rounding of all the rest. */
public final class RoundingTest {
    private static final Check check = new Check("RoundingTest");
    private static SmallFloats x;

    public static void main(String[] args) {
        betweenNumbers();
        withoutSubnormals();
        aboveGreat();
        withoutSign();
        limitsOfCode();
        crossNumbers();
        crossOthers();
        crossRefused();
        check.end();
    }

    /** What p / q becomes by the modes 0 to 5. */
    private static void due(int format, long p, long q, int... want) {
        for (int mode = 0; mode < want.length; mode++) {
            String call = "code(" + format + ", " + p + ", " + q + ", " + mode + ")";
            check.due(call, want[mode], x.code(format, p, q, mode));
            check.due("told() after " + call, 0, x.told());
        }
    }

    private static void dueCross(int format, int code, int to, int... want) {
        for (int mode = 0; mode < want.length; mode++) {
            String call = "cross(" + format + ", " + code + ", " + to + ", " + mode + ")";
            check.due(call, want[mode], x.cross(format, code, to, mode));
            check.due("told() after " + call, 0, x.told());
        }
    }

    /** Magnitudes of format 0: 0, 1/4, .., 1, 5/4, 3/2, 7/4, 2, 5/2, 3, 7/2, then ENDLESS. */
    private static void betweenNumbers() {
        x = new SmallFloats();
        x.format(1, 2, 2, 1, true, 0);
        due(0, 0, 7, 0, 0, 0, 0, 0, 0);
        due(0, 1, 1, 4, 4, 4, 4, 4, 4);
        due(0, -10, 4, 25, 25, 25, 25, 25, 25);
        check.counts(x, "after exact ones", 0, 0, 0);
        due(0, 1, 8, 0, 1, 0, 0, 1, 1);
        due(0, -1, 8, 16, 17, 16, 17, 16, 17);
        due(0, 3, 8, 2, 2, 1, 1, 2, 1);
        due(0, 1, 10, 0, 0, 0, 0, 1, 1);
        due(0, 2, 10, 1, 1, 0, 0, 1, 1);
        due(0, 9, 4, 8, 9, 8, 8, 9, 9);
        due(0, -9, 4, 24, 25, 24, 25, 24, 25);
        due(0, 11, 4, 10, 10, 9, 9, 10, 9);
        due(0, 22, 10, 8, 8, 8, 8, 9, 9);
        due(0, 23, 10, 9, 9, 8, 8, 9, 9);
        due(0, -26, 10, 25, 25, 25, 26, 25, 25);
        check.counts(x, "after inexact ones", 66, 0, 0);
    }

    private static void withoutSubnormals() {
        x = new SmallFloats();
        x.format(1, 2, 2, 1, false, 1);
        due(0, 5, 8, 1, 1, 1, 1, 1, 1);
        due(0, 5, 16, 0, 1, 0, 0, 1, 1);
        due(0, -5, 16, 16, 17, 16, 17, 16, 17);
        due(0, 1, 4, 0, 0, 0, 0, 1, 1);
        due(0, 6, 16, 1, 1, 0, 0, 1, 1);
    }

    private static void aboveGreat() {
        x = new SmallFloats();
        x.format(1, 2, 2, 1, true, 0);
        x.format(1, 2, 2, 1, true, 1);
        x.format(1, 2, 2, 1, true, 2);
        x.format(1, 2, 0, 1, true, 0);
        due(0, 15, 4, 12, 12, 11, 11, 12, 11);
        due(0, -15, 4, 28, 28, 27, 28, 27, 27);
        due(0, 149, 40, 11, 11, 11, 11, 12, 11);
        due(0, 1L << 40, 1, 12, 12, 11, 11, 12, 11);
        check.counts(x, "after TOP 0", 24, 24, 0);
        due(1, 13, 2, 15, 15, 14, 14, 15, 15);
        due(1, -13, 2, 15, 15, 30, 15, 30, 15);
        due(1, 25, 4, 14, 14, 14, 14, 15, 15);
        check.counts(x, "after TOP 1", 42, 42, 0);
        due(2, 100, 1, 15, 15, 15, 15, 15, 15);
        due(2, -100, 1, 31, 31, 31, 31, 31, 31);
        check.counts(x, "after TOP 2", 54, 54, 0);
        due(3, 3, 1, 3, 3, 2, 2, 3, 3);
        due(3, -3, 1, 7, 7, 6, 7, 6, 7);
        due(3, 29, 10, 3, 3, 2, 2, 3, 3);
        due(3, 24, 10, 2, 2, 2, 2, 3, 3);
    }

    private static void withoutSign() {
        x = new SmallFloats();
        x.format(0, 2, 2, 1, true, 0);
        due(0, -1, 1, 0, 0, 0, 0, 0, 0);
        due(0, -1000, 1, 0, 0, 0, 0, 0, 0);
        check.counts(x, "below 0 without a sign", 12, 0, 0);
        due(0, 9, 4, 8, 9, 8, 8, 9, 9);
    }

    private static void limitsOfCode() {
        x = new SmallFloats();
        x.format(1, 4, 5, 15, true, 0);
        long p = 1L << 40;
        int q = 1 << 20;
        check.due("greatest p", 480, x.code(0, p, 1, 0));
        check.due("least p", 992, x.code(0, -p, 1, 0));
        check.due("greatest q, UP", 1, x.code(0, 1, q, 4));
        check.due("half of the least NUMBER, EVEN", 0, x.code(0, 1, q, 0));
        check.due("half of the least NUMBER, AWAY", 1, x.code(0, 1, q, 1));
        check.counts(x, "so far", 5, 2, 0);
        check.refused(x, "p too great", SmallFloats.BAD, x.code(0, p + 1, 1, 0));
        check.refused(x, "p too small", SmallFloats.BAD, x.code(0, -p - 1, 1, 0));
        check.refused(x, "p least of all", SmallFloats.BAD, x.code(0, Long.MIN_VALUE, 1, 0));
        check.refused(x, "q 0", SmallFloats.BAD, x.code(0, 1, 0, 0));
        check.refused(x, "q below 0", SmallFloats.BAD, x.code(0, 1, -1, 0));
        check.refused(x, "q too great", SmallFloats.BAD, x.code(0, 1, q + 1, 0));
        check.refused(x, "mode -1", SmallFloats.BAD, x.code(0, 1, 3, -1));
        check.refused(x, "mode 6", SmallFloats.BAD, x.code(0, 1, 3, 6));
        check.refused(x, "no such format", SmallFloats.BAD, x.code(1, 1, 3, 0));
        check.counts(x, "after refused ones", 5, 2, 0);
    }

    private static void crossNumbers() {
        x = new SmallFloats();
        x.format(1, 3, 2, 3, true, 0);
        x.format(1, 2, 1, 1, true, 1);
        x.format(0, 2, 2, 0, false, 2);
        dueCross(0, 12, 1, 2, 2, 2, 2, 2, 2);
        dueCross(1, 2, 0, 12, 12, 12, 12, 12, 12);
        dueCross(0, 32, 1, 8, 8, 8, 8, 8, 8);
        dueCross(0, 32, 2, 0, 0, 0, 0, 0, 0);
        check.counts(x, "after exact ones", 0, 0, 0);
        dueCross(0, 13, 1, 2, 3, 2, 2, 3, 3);
        dueCross(0, 45, 1, 10, 11, 10, 11, 10, 11);
        dueCross(0, 33, 1, 8, 8, 8, 9, 8, 9);
        dueCross(0, 44, 2, 0, 0, 0, 0, 0, 0);
        check.counts(x, "after inexact ones", 24, 0, 0);
        dueCross(0, 27, 1, 7, 7, 6, 6, 7, 7);
        dueCross(0, 59, 1, 7, 7, 14, 7, 14, 7);
        check.counts(x, "after ones above GREAT", 36, 12, 0);
    }

    private static void crossOthers() {
        x = new SmallFloats();
        x.format(1, 3, 2, 3, true, 0);
        x.format(1, 2, 1, 1, true, 1);
        x.format(1, 2, 1, 1, true, 2);
        x.format(0, 2, 1, 1, true, 0);
        x.format(0, 2, 1, 1, true, 1);
        x.format(1, 3, 0, 1, true, 0);
        dueCross(0, 28, 0, 28, 28, 28, 28, 28, 28);
        dueCross(0, 60, 0, 60, 60, 60, 60, 60, 60);
        dueCross(0, 28, 1, 7, 7, 7, 7, 7, 7);
        dueCross(0, 60, 1, 7, 7, 7, 7, 7, 7);
        dueCross(0, 28, 2, 7, 7, 7, 7, 7, 7);
        dueCross(0, 60, 2, 15, 15, 15, 15, 15, 15);
        dueCross(0, 28, 3, 6, 6, 6, 6, 6, 6);
        dueCross(0, 60, 3, 0, 0, 0, 0, 0, 0);
        dueCross(0, 60, 4, 0, 0, 0, 0, 0, 0);
        dueCross(0, 60, 5, 15, 15, 15, 15, 15, 15);
        dueCross(0, 63, 0, 30, 30, 30, 30, 30, 30);
        dueCross(0, 29, 1, 7, 7, 7, 7, 7, 7);
        dueCross(1, 15, 3, 7, 7, 7, 7, 7, 7);
        check.counts(x, "after what is no NUMBER", 0, 0, 0);
        check.refused(x, "a NONE to TOP 2", SmallFloats.INVALID, x.cross(0, 29, 2, 0));
        check.refused(x, "a NONE to TOP 0 without a fraction", SmallFloats.INVALID, x.cross(1, 7, 5, 0));
        check.counts(x, "after refused ones", 0, 0, 2);
    }

    private static void crossRefused() {
        x = new SmallFloats();
        x.format(1, 3, 2, 3, true, 0);
        x.format(1, 2, 1, 1, true, 2);
        check.refused(x, "cross(2, ..)", SmallFloats.BAD, x.cross(2, 0, 0, 0));
        check.refused(x, "cross(.., to 2, ..)", SmallFloats.BAD, x.cross(0, 0, 2, 0));
        check.refused(x, "cross(.., to -1, ..)", SmallFloats.BAD, x.cross(0, 0, -1, 0));
        check.refused(x, "code 64", SmallFloats.BAD, x.cross(0, 64, 1, 0));
        check.refused(x, "code 16 of 4 bits", SmallFloats.BAD, x.cross(1, 16, 0, 0));
        check.refused(x, "code -1", SmallFloats.BAD, x.cross(0, -1, 1, 0));
        check.refused(x, "mode 6", SmallFloats.BAD, x.cross(0, 0, 1, 6));
        check.refused(x, "BAD ahead of INVALID", SmallFloats.BAD, x.cross(0, 29, 1, -1));
        check.counts(x, "after BAD ones", 0, 0, 0);
    }
}
