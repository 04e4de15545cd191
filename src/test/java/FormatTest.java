/** Promises 1 to 5: a new object, format, about, kind, units. */
public final class FormatTest {
    private static final Check check = new Check("FormatTest");

    public static void main(String[] args) {
        newObject();
        formatNumbers();
        formatLimits();
        about();
        smallFormats();
        kind();
        units();
        check.end();
    }

    private static void newObject() {
        SmallFloats x = new SmallFloats();
        check.due("told() of a new object", 0, x.told());
        check.due("count(3) of a new object", 0, x.count(3));
        check.counts(x, "of a new object", 0, 0, 0);
        check.refused(x, "about(0, 0) without formats", SmallFloats.BAD, x.about(0, 0));
        check.refused(x, "lookup(0, 0) without a table", SmallFloats.STATE, x.lookup(0, 0));
        x.format(1, 2, 1, 1, true, 0);
        for (int row = 0; row < 4; row++) {
            check.refused(x, "at(" + row + ", 0) without rows", SmallFloats.BAD, x.at(row, 0));
            check.refused(x, "packed(" + row + ", -1) without rows", SmallFloats.BAD, x.packed(row, -1));
            check.refused(x, "sum(" + row + ", 0, false) without rows", SmallFloats.BAD, x.sum(row, 0, false));
        }
    }

    private static void formatNumbers() {
        SmallFloats x = new SmallFloats();
        check.due("first", 0, x.format(1, 2, 1, 1, true, 0));
        check.due("other s", 1, x.format(0, 2, 1, 1, true, 0));
        check.due("other e", 2, x.format(1, 3, 1, 1, true, 0));
        check.due("other f", 3, x.format(1, 2, 2, 1, true, 0));
        check.due("other bias", 4, x.format(1, 2, 1, 2, true, 0));
        check.due("other subnormals", 5, x.format(1, 2, 1, 1, false, 0));
        check.due("other top", 6, x.format(1, 2, 1, 1, true, 1));
        check.due("alike the first", 0, x.format(1, 2, 1, 1, true, 0));
        check.due("alike the fourth", 3, x.format(1, 2, 2, 1, true, 0));
        check.due("count(3)", 7, x.count(3));
        for (int bias = 3; bias <= 5; bias++) {
            check.due("bias " + bias, bias + 4, x.format(1, 2, 1, bias, true, 0));
        }
        check.refused(x, "an eleventh", SmallFloats.FULL, x.format(1, 2, 1, 6, true, 0));
        check.refused(x, "bad ahead of full", SmallFloats.BAD, x.format(1, 2, 1, 16, true, 0));
        check.due("alike when full", 9, x.format(1, 2, 1, 5, true, 0));
        check.due("told()", 0, x.told());
        check.due("count(3) when full", 10, x.count(3));
    }

    private static void formatLimits() {
        SmallFloats x = new SmallFloats();
        int[][] bad = {
            {-1, 2, 1, 0, 0}, {2, 2, 1, 0, 0}, {1, 0, 3, 0, 0}, {1, 5, 1, 0, 0}, {1, 2, -1, 0, 0}, {1, 2, 6, 0, 0},
            {1, 2, 1, -1, 0}, {1, 2, 1, 16, 0}, {1, 2, 1, 0, -1}, {1, 2, 1, 0, 3}, {1, 1, 0, 0, 0}, {0, 1, 1, 0, 0},
            {0, 2, 0, 0, 2}, {Integer.MAX_VALUE, 2, 1, 0, 0}, {1, Integer.MIN_VALUE, 1, 0, 0},
        };
        for (int[] b : bad) {
            String call = "format(" + b[0] + ", " + b[1] + ", " + b[2] + ", " + b[3] + ", true, " + b[4] + ")";
            check.refused(x, call, SmallFloats.BAD, x.format(b[0], b[1], b[2], b[3], true, b[4]));
        }
        check.due("count(3) after bad ones", 0, x.count(3));
        check.due("greatest of all", 0, x.format(1, 4, 5, 15, true, 2));
        check.due("3 bits with a sign", 1, x.format(1, 1, 1, 0, false, 0));
        check.due("3 bits without a sign", 2, x.format(0, 1, 2, 0, false, 0));
        check.due("3 bits without a fraction", 3, x.format(0, 3, 0, 0, false, 0));
        check.due("bits", 10, x.about(0, 0));
        check.due("bits", 3, x.about(3, 0));
    }

    private static void dueAbout(SmallFloats x, int format, int... want) {
        for (int what = 0; what < want.length; what++) {
            check.due("about(" + format + ", " + what + ")", want[what], x.about(format, what));
            check.due("told() after about", 0, x.told());
        }
    }

    private static void about() {
        SmallFloats x = new SmallFloats();
        x.format(1, 3, 2, 3, true, 0);
        x.format(1, 4, 3, 7, true, 1);
        x.format(0, 2, 2, 0, true, 2);
        x.format(0, 3, 0, 4, false, 0);
        dueAbout(x, 0, 6, 27, 26, 30, 28, 56, 5);
        dueAbout(x, 1, 8, 126, 125, 127, SmallFloats.NONE, 254, 10);
        dueAbout(x, 2, 4, 15, 14, SmallFloats.NONE, SmallFloats.NONE, 16, 2);
        dueAbout(x, 3, 3, 6, 5, SmallFloats.NONE, 7, 7, 4);
        check.refused(x, "about(4, 0)", SmallFloats.BAD, x.about(4, 0));
        check.refused(x, "about(-1, 0)", SmallFloats.BAD, x.about(-1, 0));
        check.refused(x, "about(10, 0)", SmallFloats.BAD, x.about(10, 0));
        check.refused(x, "about(0, -1)", SmallFloats.BAD, x.about(0, -1));
        check.refused(x, "about(0, 7)", SmallFloats.BAD, x.about(0, 7));
    }

    /** The formats with the fewest NUMBERS: LAST is ZERO. */
    private static void smallFormats() {
        SmallFloats x = new SmallFloats();
        x.format(1, 1, 1, 0, true, 0);
        dueAbout(x, 0, 3, 1, 0, 3, 2, 4, 1);
        check.due("units(0, 1)", 2, x.units(0, 1));
        check.due("units(0, 5)", -2, x.units(0, 5));
        check.due("code(0, 3, 2, 0): a tie above GREAT", 2, x.code(0, 3, 2, 0));
        check.due("code(0, 3, 2, 5): ODD with an odd GREAT", 1, x.code(0, 3, 2, 5));
    }

    private static void kind() {
        SmallFloats x = new SmallFloats();
        x.format(1, 2, 2, 1, true, 0);
        x.format(1, 2, 2, 1, false, 1);
        x.format(0, 2, 1, 1, true, 2);
        int[] first = {0, 1, 1, 1, 2, 2, 2, 2, 2, 2, 2, 2, 3, 4, 4, 4};
        for (int code = 0; code < 32; code++) {
            check.due("kind(0, " + code + ", 0)", first[code % 16], x.kind(0, code, 0));
            check.due("kind(0, " + code + ", 1)", code / 16, x.kind(0, code, 1));
            int second = code % 16 == 0 ? 0 : code % 16 == 15 ? 4 : 2;
            check.due("kind(1, " + code + ", 0)", second, x.kind(1, code, 0));
        }
        int[] third = {0, 1, 2, 2, 2, 2, 2, 2};
        for (int code = 0; code < 8; code++) {
            check.due("kind(2, " + code + ", 0)", third[code], x.kind(2, code, 0));
            check.due("kind(2, " + code + ", 1)", 0, x.kind(2, code, 1));
        }
        check.due("told()", 0, x.told());
        check.refused(x, "kind(3, 0, 0)", SmallFloats.BAD, x.kind(3, 0, 0));
        check.refused(x, "kind(0, 32, 0)", SmallFloats.BAD, x.kind(0, 32, 0));
        check.refused(x, "kind(2, 8, 0)", SmallFloats.BAD, x.kind(2, 8, 0));
        check.refused(x, "kind(0, -1, 0)", SmallFloats.BAD, x.kind(0, -1, 0));
        check.refused(x, "kind(0, 0, 2)", SmallFloats.BAD, x.kind(0, 0, 2));
        check.refused(x, "kind(0, 0, -1)", SmallFloats.BAD, x.kind(0, 0, -1));
    }

    private static void units() {
        SmallFloats x = new SmallFloats();
        x.format(1, 2, 2, 1, true, 0);
        x.format(0, 2, 2, 9, false, 1);
        x.format(1, 4, 5, 0, true, 2);
        long[] first = {0, 2, 4, 6, 8, 10, 12, 14, 16, 20, 24, 28};
        long[] second = {0, 5, 6, 7, 8, 10, 12, 14, 16, 20, 24, 28, 32, 40, 48};
        for (int code = 0; code < 16; code++) {
            long want = code < 12 ? first[code] : SmallFloats.NO;
            check.due("units(0, " + code + ")", want, x.units(0, code));
            check.due("told() after units", 0, x.told());
            check.due("units(0, minus)", code < 12 ? -want : SmallFloats.NO, x.units(0, 16 + code));
            check.due("units(1, " + code + ")", code < 15 ? second[code] : SmallFloats.NO, x.units(1, code));
        }
        check.due("units(2, 511)", 63L << 15, x.units(2, 511));
        check.due("units(2, 1023)", -63L << 15, x.units(2, 1023));
        check.due("units(0, 32)", SmallFloats.NO, x.units(0, 32));
        check.due("told()", SmallFloats.BAD, x.told());
        check.due("units(0, -1)", SmallFloats.NO, x.units(0, -1));
        check.due("units(3, 0)", SmallFloats.NO, x.units(3, 0));
        check.due("told()", SmallFloats.BAD, x.told());
        check.due("NO", Long.MIN_VALUE, SmallFloats.NO);
    }
}
