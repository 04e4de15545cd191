/** Terms 1 and promises 1 to 5, sentence by sentence: what a code is at the edges of E and F, GREAT, LAST, the NONE. */
public final class FormatBoundsTest {
    private static final Check check = new Check("FormatBoundsTest");
    private static final int NONE = SmallFloats.NONE;
    private static final long NO = SmallFloats.NO;
    private static final int ZERO = 0, SUBNORMAL = 1, OTHER = 2, ENDLESS = 3, NO_NUMBER = 4;

    public static void main(String[] args) {
        newObject();
        newObjectHasNoRows();
        formatNumbers();
        alikeFormats();
        signBit();
        exponentAndFraction();
        unit();
        topEndless();
        topOne();
        topPlain();
        zeros();
        subnormals();
        otherNumbers();
        belowZero();
        numbers();
        greatAndLast();
        greatAndLastOfTheSmallest();
        noneOfTopEndless();
        noneOfTopOne();
        noneOfTopPlain();
        endless();
        kindOfSign();
        unitsOfNoNumber();
        check.end();
    }

    private static SmallFloats with(int s, int e, int f, int bias, boolean subnormals, int top) {
        SmallFloats x = new SmallFloats();
        check.fine(x, "the first format", 0, x.format(s, e, f, bias, subnormals, top));
        return x;
    }

    private static void kinds(SmallFloats x, int kind, int... codes) {
        for (int code : codes) {
            check.fine(x, "kind(0, " + code + ", 0)", kind, x.kind(0, code, 0));
        }
    }

    private static void about(SmallFloats x, int what, int want) {
        check.fine(x, "about(0, " + what + ")", want, x.about(0, what));
    }

    private static void units(SmallFloats x, int code, long want) {
        check.fine(x, "units(0, " + code + ")", want, x.units(0, code));
    }

    private static void newObject() {
        check.sentence("Promise 1", "No FORMATS");
        SmallFloats x = new SmallFloats();
        check.due("told()", 0, x.told());
        check.due("count(3)", 0, x.count(3));
        check.counts(x, "of a new object", 0, 0, 0);
        int bad = SmallFloats.BAD;
        for (int format = -1; format <= 10; format++) {
            check.refused(x, "about", bad, x.about(format, 0));
            check.refused(x, "kind", bad, x.kind(format, 0, 0));
            check.due("units", NO, x.units(format, 0));
            check.due("told() after units", bad, x.told());
            check.refused(x, "code", bad, x.code(format, 0, 1, 0));
            check.refused(x, "cross", bad, x.cross(format, 0, format, 0));
            check.refused(x, "act", bad, x.act(format, 0, 0, 0, 0));
            check.refused(x, "fused", bad, x.fused(format, 0, 0, 0, 0));
            check.refused(x, "next", bad, x.next(format, 0, true));
            check.refused(x, "order", bad, x.order(format, 0, 0));
            check.refused(x, "numbers", bad, x.numbers(format, 0, 0));
            check.refused(x, "row", bad, x.row(0, format, 0));
            check.refused(x, "table", bad, x.table(format, 0, 0));
        }
        check.counts(x, "still", 0, 0, 0);
        check.due("the first format", 0, x.format(1, 2, 1, 1, true, 0));
        // An object knows nothing of another one.
        check.due("count(3) of another new object", 0, new SmallFloats().count(3));
    }

    private static void newObjectHasNoRows() {
        check.sentence("Promise 1", "ROWS are not there");
        SmallFloats x = with(1, 2, 1, 1, true, 0);
        int bad = SmallFloats.BAD;
        for (int row = 0; row < 4; row++) {
            check.refused(x, "at", bad, x.at(row, 0));
            check.refused(x, "put", bad, x.put(row, 0, 0));
            check.refused(x, "packed", bad, x.packed(row, -1));
            check.refused(x, "quantise", bad, x.quantise((row + 1) % 4, row, 0, 0));
            check.refused(x, "worst", bad, x.worst(row, row, 0));
            check.refused(x, "sum", bad, x.sum(row, 0, false));
            check.refused(x, "dot", bad, x.dot(row, row, 0, true));
        }
        check.fine(x, "row(1, 0, 1)", 1, x.row(1, 0, 1));
        check.refused(x, "row 0 is not there with row 1", bad, x.at(0, 0));
        check.refused(x, "row 2 is not there with row 1", bad, x.at(2, 0));
    }

    private static void formatNumbers() {
        check.sentence("Promise 2", "A FORMAT: its number");
        SmallFloats x = new SmallFloats();
        for (int i = 0; i < 10; i++) {
            check.fine(x, "format " + i, i, x.format(1, 3, 2, i, true, 0));
            check.due("count(3)", i + 1, x.count(3));
            check.fine(x, "its BIAS and f", i + 2, x.about(i, 6));
            check.refused(x, "the next one is not there", SmallFloats.BAD, x.about(i + 1, 6));
        }
        check.fine(x, "the first one is still there", 2, x.about(0, 6));
    }

    private static void alikeFormats() {
        check.sentence("Promise 2", "of one that is alike the one that is there: its");
        SmallFloats x = with(1, 2, 2, 3, true, 0);
        int[][] others = {
            {0, 2, 2, 3, 1, 0}, {1, 3, 2, 3, 1, 0}, {1, 2, 1, 3, 1, 0}, {1, 2, 2, 4, 1, 0}, {1, 2, 2, 3, 0, 0},
            {1, 2, 2, 3, 1, 1}, {1, 2, 2, 3, 1, 2},
        };
        for (int i = 0; i < others.length; i++) {
            int[] o = others[i];
            check.fine(x, "another one " + i, i + 1, x.format(o[0], o[1], o[2], o[3], o[4] == 1, o[5]));
        }
        check.fine(x, "the first once more", 0, x.format(1, 2, 2, 3, true, 0));
        for (int i = 0; i < others.length; i++) {
            int[] o = others[i];
            check.fine(x, "once more " + i, i + 1, x.format(o[0], o[1], o[2], o[3], o[4] == 1, o[5]));
        }
        check.due("count(3)", 8, x.count(3));
    }

    private static void signBit() {
        check.sentence("Terms 1", "the sign is the highest bit (if s is 1)");
        SmallFloats x = with(1, 2, 2, 1, true, 2);
        check.fine(x, "the last code without a sign", 0, x.kind(0, 15, 1));
        check.fine(x, "the first code with the sign", 1, x.kind(0, 16, 1));
        check.fine(x, "the last code", 1, x.kind(0, 31, 1));
        units(x, 15, 56);
        units(x, 17, -2);
        SmallFloats y = with(0, 2, 3, 1, true, 2);
        check.fine(y, "the highest bit, s 0", 0, y.kind(0, 16, 1));
        check.fine(y, "the last code, s 0", 0, y.kind(0, 31, 1));
        units(y, 16, 32);
    }

    private static void exponentAndFraction() {
        check.sentence("Terms 1", "E the e behind it, F the f lowest");
        SmallFloats x = with(1, 2, 3, 0, false, 2);
        units(x, 0b0_00_001, 9);
        units(x, 0b0_00_111, 15);
        units(x, 0b0_01_000, 16);
        units(x, 0b0_01_111, 30);
        units(x, 0b0_10_000, 32);
        units(x, 0b0_11_111, 120);
        units(x, 0b1_01_001, -18);
    }

    private static void unit() {
        check.sentence("Terms 1 and promise 3", "ITS UNIT is 2^-(BIAS + f)");
        SmallFloats x = with(0, 3, 0, 0, true, 2);
        about(x, 6, 0);
        check.fine(x, "2 UNITS of 1", 1, x.code(0, 2, 1, 2));
        SmallFloats y = with(1, 4, 5, 15, true, 2);
        about(y, 6, 20);
        check.fine(y, "2 UNITS of 2^-20", 1, y.code(0, 2, 1 << 20, 2));
        SmallFloats z = with(1, 2, 5, 0, true, 2);
        about(z, 6, 5);
        check.fine(z, "2 UNITS of 2^-5", 1, z.code(0, 2, 32, 2));
        SmallFloats w = with(1, 3, 0, 15, true, 2);
        about(w, 6, 15);
        check.fine(w, "2 UNITS of 2^-15", 1, w.code(0, 2, 1 << 15, 2));
        check.due("INEXACT", 0, x.count(0) + y.count(0) + z.count(0) + w.count(0));
    }

    private static void topEndless() {
        check.sentence("Terms 1 and promise 4", "of TOP 0 with E all ones: ENDLESS, if F is 0, else NONE");
        SmallFloats x = with(1, 2, 2, 1, true, 0);
        kinds(x, OTHER, 11, 16 + 11);
        kinds(x, ENDLESS, 12, 16 + 12);
        kinds(x, NO_NUMBER, 13, 14, 15, 16 + 13, 16 + 14, 16 + 15);
        SmallFloats withoutFraction = with(1, 3, 0, 1, true, 0);
        kinds(withoutFraction, OTHER, 6, 8 + 6);
        kinds(withoutFraction, ENDLESS, 7, 8 + 7);
        SmallFloats smallest = with(1, 1, 1, 0, true, 0);
        kinds(smallest, SUBNORMAL, 1, 5);
        kinds(smallest, ENDLESS, 2, 6);
        kinds(smallest, NO_NUMBER, 3, 7);
        SmallFloats largest = with(1, 4, 5, 15, false, 0);
        kinds(largest, OTHER, 479, 512 + 479);
        kinds(largest, ENDLESS, 480, 512 + 480);
        kinds(largest, NO_NUMBER, 481, 511, 512 + 481, 1023);
        SmallFloats unsigned = with(0, 2, 2, 1, true, 0);
        kinds(unsigned, OTHER, 11);
        kinds(unsigned, ENDLESS, 12);
        kinds(unsigned, NO_NUMBER, 13, 15);
    }

    private static void topOne() {
        check.sentence("Terms 1 and promise 4", "of TOP 1 with E and F all ones: NONE");
        SmallFloats x = with(1, 2, 2, 1, true, 1);
        kinds(x, OTHER, 12, 13, 14, 16 + 12, 16 + 14);
        kinds(x, NO_NUMBER, 15, 31);
        units(x, 14, 48);
        SmallFloats withoutFraction = with(1, 2, 0, 1, true, 1);
        kinds(withoutFraction, OTHER, 1, 2, 5, 6);
        kinds(withoutFraction, NO_NUMBER, 3, 7);
        SmallFloats unsigned = with(0, 1, 2, 1, true, 1);
        kinds(unsigned, OTHER, 4, 6);
        kinds(unsigned, NO_NUMBER, 7);
        SmallFloats largest = with(1, 4, 5, 0, true, 1);
        kinds(largest, OTHER, 510, 1022);
        kinds(largest, NO_NUMBER, 511, 1023);
    }

    private static void topPlain() {
        check.sentence("Terms 1", "NUMBERS are all but ENDLESS and NONE ones (TOP 2: all)");
        SmallFloats x = with(1, 2, 2, 1, true, 2);
        kinds(x, OTHER, 12, 13, 15, 28, 29, 31);
        units(x, 15, 56);
        units(x, 31, -56);
        SmallFloats withoutFraction = with(0, 3, 0, 0, true, 2);
        kinds(withoutFraction, OTHER, 6, 7);
        units(withoutFraction, 7, 128);
    }

    private static void zeros() {
        check.sentence("Terms 1 and promise 4", "with E and F 0: ZERO");
        for (int top = 0; top <= 2; top++) {
            for (int f = 0; f <= 5; f += 5) {
                SmallFloats x = with(1, 2, f, 1, top == 1, top);
                int minus = 4 << f;
                kinds(x, ZERO, 0, minus);
                kinds(x, f == 0 ? OTHER : top == 1 ? SUBNORMAL : OTHER, 1, minus + 1);
                units(x, 0, 0);
                units(x, minus, 0);
            }
        }
    }

    private static void subnormals() {
        check.sentence("Terms 1 and promises 4, 5", "with E 0 and SUBNORMALS: 2 F UNITS");
        SmallFloats x = with(1, 2, 2, 1, true, 0);
        kinds(x, SUBNORMAL, 1, 2, 3, 17, 19);
        kinds(x, OTHER, 4, 20);
        units(x, 1, 2);
        units(x, 3, 6);
        units(x, 19, -6);
        SmallFloats five = with(0, 1, 5, 15, true, 2);
        units(five, 1, 2);
        units(five, 31, 62);
        units(five, 32, 64);
    }

    private static void otherNumbers() {
        check.sentence("Terms 1 and promises 4, 5", "else (2^f + F) 2^E UNITS");
        SmallFloats x = with(1, 2, 2, 1, false, 0);
        kinds(x, OTHER, 1, 3, 4, 17, 19);
        units(x, 1, 5);
        units(x, 3, 7);
        units(x, 4, 8);
        units(x, 7, 14);
        units(x, 8, 16);
        units(x, 11, 28);
        SmallFloats withoutFraction = with(1, 4, 0, 1, true, 2);
        units(withoutFraction, 1, 2);
        units(withoutFraction, 15, 32768);
        SmallFloats largest = with(1, 4, 5, 0, true, 2);
        units(largest, 511, 63L << 15);
        units(largest, 1023, -(63L << 15));
    }

    private static void belowZero() {
        check.sentence("Terms 1", "With the sign these are below 0 (minus ZERO, minus ENDLESS, too)");
        SmallFloats x = with(1, 2, 2, 1, true, 0);
        units(x, 17, -2);
        units(x, 27, -28);
        check.fine(x, "the sign of minus ZERO", 1, x.kind(0, 16, 1));
        check.fine(x, "minus ENDLESS and minus GREAT", -1, x.order(0, 28, 27));
        check.fine(x, "minus ENDLESS and ENDLESS", -1, x.order(0, 28, 12));
        check.fine(x, "1 by minus ZERO", 28, x.act(0, 3, 4, 16, 0));
        check.sentence("Promise 5", "minus ZERO: 0");
        units(x, 16, 0);
    }

    private static void numbers() {
        check.sentence("Terms 1 and promise 3", "NUMBERS are all but ENDLESS and NONE ones; 5 how many CODES are NUMBERS");
        about(with(1, 2, 2, 1, true, 0), 5, 24);
        about(with(0, 2, 2, 1, true, 0), 5, 12);
        about(with(1, 2, 2, 1, false, 1), 5, 30);
        about(with(0, 2, 2, 1, true, 1), 5, 15);
        about(with(1, 2, 2, 1, true, 2), 5, 32);
        about(with(0, 2, 2, 1, false, 2), 5, 16);
        about(with(1, 2, 0, 1, true, 0), 5, 6);
        about(with(1, 1, 1, 1, true, 0), 5, 4);
        about(with(1, 4, 5, 1, true, 2), 5, 1024);
        about(with(1, 4, 5, 1, true, 0), 5, 960);
    }

    private static void greatAndLast() {
        check.sentence("Terms 1 and promise 3", "GREAT is the greatest NUMBER, LAST the greatest below it");
        int[][] due = {{1, 2, 2, 0, 11, 10}, {1, 2, 2, 1, 14, 13}, {1, 2, 2, 2, 15, 14}, {0, 3, 0, 0, 6, 5},
            {0, 3, 0, 1, 6, 5}, {0, 3, 0, 2, 7, 6}, {1, 4, 5, 0, 479, 478}, {1, 4, 5, 2, 511, 510}};
        for (int[] d : due) {
            SmallFloats x = with(d[0], d[1], d[2], 1, true, d[3]);
            about(x, 1, d[4]);
            about(x, 2, d[5]);
        }
    }

    /** GREAT would be 0 in formats of 2 bits alone; of all formats of 3 bits it is found among all codes. */
    private static void greatAndLastOfTheSmallest() {
        check.sentence("Terms 1 and promise 3", "GREAT (it may be 0), LAST (0, if there is none)");
        int[][] shapes = {{1, 1, 1}, {1, 2, 0}, {0, 1, 2}, {0, 2, 1}, {0, 3, 0}};
        for (int[] shape : shapes) {
            for (int way = 0; way < 6; way++) {
                SmallFloats x = with(shape[0], shape[1], shape[2], 0, way % 2 == 0, way / 2);
                int great = 0;
                int last = 0;
                for (int code = 1; code < 8; code++) {
                    if (x.units(0, code) > x.units(0, great)) {
                        last = great;
                        great = code;
                    }
                }
                about(x, 1, great);
                about(x, 2, last);
            }
        }
        SmallFloats smallest = with(1, 1, 1, 0, true, 0);
        about(smallest, 1, 1);
        about(smallest, 2, 0);
    }

    private static void noneOfTopEndless() {
        check.sentence("Terms 1 and promise 3", "THE NONE of TOP 0: sign 0, F the highest bit alone (there is none, if f is 0)");
        about(with(1, 2, 0, 1, true, 0), 3, NONE);
        about(with(0, 3, 0, 1, true, 0), 3, NONE);
        about(with(1, 2, 1, 1, true, 0), 3, 0b0_11_1);
        about(with(1, 2, 2, 1, true, 0), 3, 0b0_11_10);
        about(with(0, 2, 2, 1, true, 0), 3, 0b11_10);
        about(with(1, 4, 5, 1, true, 0), 3, 0b0_1111_10000);
    }

    private static void noneOfTopOne() {
        check.sentence("Terms 1 and promise 3", "THE NONE of TOP 1: sign 0, all ones");
        about(with(1, 2, 0, 1, true, 1), 3, 0b0_11);
        about(with(1, 2, 2, 1, true, 1), 3, 0b0_11_11);
        about(with(0, 2, 2, 1, true, 1), 3, 0b11_11);
        about(with(1, 4, 5, 1, true, 1), 3, 0b0_1111_11111);
    }

    private static void noneOfTopPlain() {
        check.sentence("Terms 1 and promise 3", "THE NONE of TOP 2: there is none; NONE: there is none");
        about(with(1, 2, 2, 1, true, 2), 3, NONE);
        about(with(0, 3, 0, 1, true, 2), 3, NONE);
        about(with(1, 4, 5, 1, true, 2), 3, NONE);
    }

    private static void endless() {
        check.sentence("Terms 1 and promise 3", "ITS ENDLESS (TOP 0 alone): sign as told, F 0");
        about(with(1, 2, 2, 1, true, 0), 4, 0b0_11_00);
        about(with(0, 2, 2, 1, true, 0), 4, 0b11_00);
        about(with(1, 3, 0, 1, true, 0), 4, 0b0_111);
        about(with(1, 1, 1, 1, true, 0), 4, 0b0_1_0);
        about(with(1, 2, 2, 1, true, 1), 4, NONE);
        about(with(1, 2, 2, 1, true, 2), 4, NONE);
        about(with(0, 3, 0, 1, true, 1), 4, NONE);
        SmallFloats x = with(1, 2, 2, 1, true, 0);
        check.fine(x, "minus ENDLESS", 0b1_11_00, x.act(0, 3, 4, 16, 0));
    }

    private static void kindOfSign() {
        check.sentence("Promise 4", "what = 1: whether it has the sign");
        SmallFloats x = with(1, 1, 1, 0, true, 0);
        for (int code = 0; code < 8; code++) {
            check.fine(x, "kind(0, " + code + ", 1)", code < 4 ? 0 : 1, x.kind(0, code, 1));
        }
    }

    private static void unitsOfNoNumber() {
        check.sentence("Promise 5", "NO: .. or no NUMBER");
        SmallFloats x = with(1, 2, 2, 1, true, 0);
        units(x, 11, 28);
        for (int code : new int[] {12, 13, 15, 28, 29, 31}) {
            units(x, code, NO);
        }
        SmallFloats y = with(1, 2, 2, 1, true, 1);
        units(y, 14, 48);
        units(y, 15, NO);
        units(y, 30, -48);
        units(y, 31, NO);
    }
}
