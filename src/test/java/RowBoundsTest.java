/** Terms 3 on rows and promises 13 to 18, sentence by sentence: rows with no code, with one and with 16. */
public final class RowBoundsTest {
    private static final Check check = new Check("RowBoundsTest");
    private static final int BAD = SmallFloats.BAD, NONE = SmallFloats.NONE;
    // Numbers of makeFormats(): of 6, 3, 10, 4 (TOP 2), 9 and 4 (TOP 1) bits.
    private static final int SIX = 0, THREE = 1, TEN = 2, PLAIN = 3, NINE = 4, ONE_TOP = 5;
    private static SmallFloats x;

    public static void main(String[] args) {
        rowsAreFour();
        rowLengths();
        zeroAtFirst();
        aNewRow();
        putTellsWhatItWas();
        putOfAnyCode();
        atOfEachPlace();
        packedFromTheLowestBit();
        packedAcrossBytes();
        packedBytes();
        packedOfNoCodes();
        packedOfSixteen();
        packedBitByBit();
        quantiseAsCross();
        quantiseOfNoCodes();
        quantiseOfSixteen();
        quantiseFormatAndLength();
        quantiseOfOneInvalid();
        worstPlace();
        worstFirstPlace();
        worstNowhere();
        worstOfZeros();
        worstDiffer();
        worstNoNumbers();
        worstByOneUnit();
        worstOfAnyFormats();
        worstOfLengths();
        check.end();
    }

    private static void makeFormats() {
        x = new SmallFloats();
        x.format(1, 3, 2, 3, true, 0);
        x.format(1, 1, 1, 0, true, 0);
        x.format(1, 4, 5, 15, true, 2);
        x.format(1, 2, 1, 1, true, 2);
        x.format(0, 4, 5, 0, true, 2);
        x.format(1, 2, 1, 1, true, 1);
    }

    private static void fill(int row, int format, int... codes) {
        Scene.fill(x, row, format, codes);
        check.due("told() after the last put", 0, x.told());
    }

    private static void holds(int row, int... codes) {
        for (int i = 0; i < codes.length; i++) {
            check.fine(x, "at(" + row + ", " + i + ")", codes[i], x.at(row, i));
        }
        check.refused(x, "at(" + row + ", behind the last)", BAD, x.at(row, codes.length));
    }

    private static void bytes(int row, int... want) {
        check.fine(x, "packed(" + row + ", -1)", want.length, x.packed(row, -1));
        for (int i = 0; i < want.length; i++) {
            check.fine(x, "packed(" + row + ", " + i + ")", want[i], x.packed(row, i));
        }
        check.refused(x, "packed(" + row + ", behind the last)", BAD, x.packed(row, want.length));
    }

    private static void worst(int row, int other, int place, int differ, int noNumbers) {
        check.fine(x, "worst(.., 0)", place, x.worst(row, other, 0));
        check.fine(x, "worst(.., 1)", differ, x.worst(row, other, 1));
        check.fine(x, "worst(.., 2)", noNumbers, x.worst(row, other, 2));
    }

    private static void rowsAreFour() {
        makeFormats();
        check.sentence("Terms 3", "ROWS 0 .. 3 are of a FORMAT");
        for (int row = 0; row < 4; row++) {
            fill(row, row, row + 1, 2);
        }
        for (int row = 0; row < 4; row++) {
            holds(row, row + 1, 2);
        }
        check.refused(x, "row 4", BAD, x.row(4, 0, 1));
        check.refused(x, "row -1", BAD, x.row(-1, 0, 1));
        check.refused(x, "a code that the row's own format has not", BAD, x.put(THREE, 0, 8));
        check.fine(x, "a code that it has", 2, x.put(THREE, 0, 7));
    }

    private static void rowLengths() {
        makeFormats();
        check.sentence("Terms 3 and promise 13", "with 0 .. 16 CODES");
        for (int n = 0; n <= 16; n++) {
            check.fine(x, "row(0, 0, " + n + ")", 1, x.row(0, SIX, n));
            check.fine(x, "its bytes", (6 * n + 7) / 8, x.packed(0, -1));
            check.refused(x, "behind the last", BAD, x.at(0, n));
            if (n > 0) {
                check.fine(x, "the last", 0, x.at(0, n - 1));
            }
        }
        check.refused(x, "17 codes", BAD, x.row(0, SIX, 17));
        check.fine(x, "the row is as it was", 0, x.at(0, 15));
        check.refused(x, "-1 codes", BAD, x.row(0, SIX, -1));
        check.fine(x, "the row is still as it was", 0, x.at(0, 15));
    }

    private static void zeroAtFirst() {
        makeFormats();
        check.sentence("Terms 3", "ZERO at first");
        check.fine(x, "row", 1, x.row(2, TEN, 16));
        for (int i = 0; i < 16; i++) {
            check.fine(x, "at", 0, x.at(2, i));
            check.fine(x, "put", 0, x.put(2, i, 1023 - i));
        }
    }

    private static void aNewRow() {
        makeFormats();
        check.sentence("Promise 13 and terms 3", "A ROW becomes a new one; ZERO at first");
        fill(0, TEN, 1023, 1022, 1021);
        fill(1, TEN, 7, 8);
        check.fine(x, "of the same length", 1, x.row(0, TEN, 3));
        holds(0, 0, 0, 0);
        fill(0, TEN, 1023, 1022, 1021);
        check.fine(x, "a shorter one", 1, x.row(0, THREE, 1));
        holds(0, 0);
        check.fine(x, "a longer one", 1, x.row(0, TEN, 4));
        holds(0, 0, 0, 0, 0);
        fill(0, TEN, 1023);
        check.refused(x, "one that is refused", BAD, x.row(0, TEN, 17));
        holds(0, 1023);
        holds(1, 7, 8);
    }

    private static void putTellsWhatItWas() {
        makeFormats();
        check.sentence("Promise 14", "A CODE of a ROW becomes another one: what it was");
        fill(0, SIX, 1, 2, 3);
        check.fine(x, "put", 2, x.put(0, 1, 63));
        holds(0, 1, 63, 3);
        check.fine(x, "put of the same", 63, x.put(0, 1, 63));
        check.fine(x, "put of ZERO", 63, x.put(0, 1, 0));
        holds(0, 1, 0, 3);
        check.refused(x, "put of 64", BAD, x.put(0, 1, 64));
        check.refused(x, "put of -1", BAD, x.put(0, 1, -1));
        check.refused(x, "put at 3", BAD, x.put(0, 3, 1));
        check.refused(x, "put at -1", BAD, x.put(0, -1, 1));
        holds(0, 1, 0, 3);
    }

    private static void putOfAnyCode() {
        makeFormats();
        check.sentence("Promise 14", "A CODE (ENDLESS and NONE, too) of a ROW");
        fill(0, SIX, 28, 29, 60, 63, 32);
        holds(0, 28, 29, 60, 63, 32);
    }

    private static void atOfEachPlace() {
        makeFormats();
        check.sentence("Promise 15", "A CODE of a ROW");
        check.due("row", 1, x.row(0, TEN, 16));
        for (int i = 0; i < 16; i++) {
            check.fine(x, "put", 0, x.put(0, i, 1000 + i));
        }
        for (int i = 0; i < 16; i++) {
            check.fine(x, "at", 1000 + i, x.at(0, i));
        }
        check.refused(x, "at 16", BAD, x.at(0, 16));
        check.refused(x, "at -1", BAD, x.at(0, -1));
    }

    private static void packedFromTheLowestBit() {
        makeFormats();
        check.sentence("Terms 3 and promise 16", "each from its lowest bit on, from the lowest bit of byte 0 on");
        fill(0, THREE, 1);
        bytes(0, 0b001);
        fill(0, THREE, 4, 1);
        bytes(0, 0b001_100);
        fill(0, PLAIN, 1, 8);
        bytes(0, 0b1000_0001);
    }

    private static void packedAcrossBytes() {
        makeFormats();
        check.sentence("Terms 3 and promise 16", "PACKED they are bits, CODE by CODE");
        fill(0, THREE, 0, 0, 7, 0);
        bytes(0, 0b11_000_000, 0b1);
        fill(0, SIX, 0b100001, 0b111110, 0b000011);
        bytes(0, 0b10_100001, 0b0011_1111, 0b00);
        fill(0, TEN, 0b10_0000_0001, 0b11_1111_1111, 0, 0b11_0000_0000);
        bytes(0, 0b0000_0001, 0b111111_10, 0b0000_1111, 0, 0b1100_0000);
        fill(0, NINE, 0b1_0000_0000, 1);
        bytes(0, 0, 0b11, 0);
    }

    private static void packedBytes() {
        makeFormats();
        check.sentence("Promise 16", "i = -1: how many there are (the last one may be filled in part)");
        int[] sixes = {0, 1, 2, 3, 3, 4, 5, 6, 6};
        int[] threes = {0, 1, 1, 2, 2, 2, 3, 3, 3};
        for (int n = 0; n <= 8; n++) {
            x.row(0, SIX, n);
            x.row(1, THREE, n);
            check.fine(x, n + " of 6 bits", sixes[n], x.packed(0, -1));
            check.fine(x, n + " of 3 bits", threes[n], x.packed(1, -1));
            check.refused(x, "behind the last of 6 bits", BAD, x.packed(0, sixes[n]));
            check.refused(x, "behind the last of 3 bits", BAD, x.packed(1, threes[n]));
        }
        check.refused(x, "i -2", BAD, x.packed(0, -2));
    }

    private static void packedOfNoCodes() {
        makeFormats();
        check.sentence("Terms 3 and promise 16", "with 0 CODES, PACKED");
        check.due("row", 1, x.row(0, TEN, 0));
        bytes(0);
        check.refused(x, "byte 0 of none", BAD, x.packed(0, 0));
    }

    private static void packedOfSixteen() {
        makeFormats();
        check.sentence("Terms 3 and promise 16", "with 16 CODES, PACKED");
        check.due("row", 1, x.row(0, TEN, 16));
        for (int i = 0; i < 16; i++) {
            x.put(0, i, i == 15 ? 1023 : 0);
        }
        check.fine(x, "bytes", 20, x.packed(0, -1));
        check.fine(x, "the last but two", 0, x.packed(0, 17));
        check.fine(x, "the last but one", 0b1100_0000, x.packed(0, 18));
        check.fine(x, "the last", 255, x.packed(0, 19));
        check.refused(x, "behind it", BAD, x.packed(0, 20));
        check.due("row", 1, x.row(0, THREE, 16));
        x.put(0, 15, 5);
        check.fine(x, "bytes of 3 bits", 6, x.packed(0, -1));
        check.fine(x, "the last of 3 bits", 0b101_00000, x.packed(0, 5));
    }

    /** Sixteen codes of each size, as far as a code can go; bit k of the row is bit k % 8 of byte k / 8. */
    private static void packedBitByBit() {
        check.sentence("Terms 3 and promise 16", "PACKED they are bits, CODE by CODE (of each size)");
        for (int bits = 3; bits <= 10; bits++) {
            x = new SmallFloats();
            check.fine(x, "format", 0, x.format(1, Math.min(4, bits - 1), Math.max(0, bits - 5), 0, true, 2));
            check.fine(x, "its bits", bits, x.about(0, 0));
            for (int step = 1; step <= 3; step++) {
                int[] codes = new int[16];
                int[] due = new int[2 * bits];
                for (int k = 0; k < 16 * bits; k++) {
                    if (k * k % 7 % step == 0) {
                        codes[k / bits] |= 1 << k % bits;
                        due[k / 8] |= 1 << k % 8;
                    }
                }
                fill(0, 0, codes);
                bytes(0, due);
            }
        }
    }

    private static void quantiseAsCross() {
        makeFormats();
        check.sentence("Promise 17", "A ROW becomes what another one is in a FORMAT, CODE by CODE as cross(): 1");
        int[] codes = {0, 32, 1, 12, 13, 59, 28, 60, 4, 3};
        fill(0, SIX, codes);
        for (int mode = 0; mode < 6; mode++) {
            int[] before = {x.count(0), x.count(1)};
            check.fine(x, "quantise by " + mode, 1, x.quantise(1, 0, PLAIN, mode));
            int[] after = {x.count(0), x.count(1)};
            for (int i = 0; i < codes.length; i++) {
                check.due("place " + i, x.cross(SIX, codes[i], PLAIN, mode), x.at(1, i));
            }
            check.due("INEXACT of as many cross()", x.count(0) - after[0], after[0] - before[0]);
            check.due("OVER of as many cross()", x.count(1) - after[1], after[1] - before[1]);
        }
        check.fine(x, "ENDLESS becomes GREAT", 7, x.at(1, 6));
        check.fine(x, "minus ENDLESS minus GREAT", 15, x.at(1, 7));
        holds(0, codes);
    }

    private static void quantiseOfNoCodes() {
        makeFormats();
        check.sentence("Promise 17", "A ROW (with no CODE) becomes what another one is");
        fill(0, SIX);
        fill(1, TEN, 1, 2, 3);
        check.fine(x, "quantise", 1, x.quantise(1, 0, PLAIN, 0));
        holds(1);
        fill(2, PLAIN);
        check.fine(x, "it has the format, too", 0, x.dot(1, 2, 0, false));
        check.counts(x, "of no codes", 0, 0, 0);
    }

    private static void quantiseOfSixteen() {
        makeFormats();
        check.sentence("Promise 17", "A ROW (with 16 CODES) becomes what another one is");
        check.due("row", 1, x.row(0, SIX, 16));
        check.due("put", 0, x.put(0, 0, 13));
        check.due("put", 0, x.put(0, 15, 12));
        check.fine(x, "quantise", 1, x.quantise(3, 0, PLAIN, 4));
        holds(3, 3, 0, 0, 0, 0, 0, 0, 0, 0, 0, 0, 0, 0, 0, 0, 2);
        check.counts(x, "of sixteen", 1, 0, 0);
    }

    private static void quantiseFormatAndLength() {
        makeFormats();
        check.sentence("Promise 17", "A ROW becomes what another one is: its length, in the FORMAT told");
        fill(0, SIX, 12, 16);
        fill(1, TEN, 1, 2, 3, 4, 5);
        check.fine(x, "to a longer one", 1, x.quantise(1, 0, PLAIN, 0));
        holds(1, 2, 4);
        check.refused(x, "a code of the format it had", BAD, x.put(1, 0, 16));
        check.fine(x, "the last code of its format", 2, x.put(1, 0, 15));
        fill(2, THREE, 1);
        check.fine(x, "to a shorter one", 1, x.quantise(2, 0, SIX, 0));
        holds(2, 12, 16);
        check.refused(x, "the same row", BAD, x.quantise(2, 2, SIX, 0));
        holds(2, 12, 16);
    }

    private static void quantiseOfOneInvalid() {
        makeFormats();
        check.sentence("Promise 17", "INVALID: of one (then nothing changes)");
        fill(1, TEN, 1, 2, 3);
        for (int place = 0; place < 3; place++) {
            fill(0, SIX, 13, 27, 13);
            check.due("put", place == 1 ? 27 : 13, x.put(0, place, 61));
            check.refused(x, "NONE at " + place, SmallFloats.INVALID, x.quantise(1, 0, PLAIN, 0));
            check.counts(x, "NONE at " + place, 0, 0, place + 1);
            holds(1, 1, 2, 3);
            check.fine(x, "the row is still of its format", 1, x.put(1, 0, 1023));
            check.fine(x, "the row is still of its format", 1023, x.put(1, 0, 1));
        }
        fill(0, SIX, 63, 63, 63);
        check.refused(x, "NONE thrice", SmallFloats.INVALID, x.quantise(1, 0, PLAIN, 0));
        check.counts(x, "NONE thrice: just one", 0, 0, 4);
        check.refused(x, "to a row that is not there", SmallFloats.INVALID, x.quantise(3, 0, PLAIN, 0));
        check.refused(x, "it is not there", BAD, x.packed(3, -1));
        check.fine(x, "NONE where there is one", 1, x.quantise(1, 0, ONE_TOP, 0));
        holds(1, 7, 7, 7);
        check.counts(x, "NONE where there is one", 0, 0, 5);
    }

    private static void worstPlace() {
        makeFormats();
        check.sentence("Promise 18", "0 the first place at which both are NUMBERS and differ most");
        // 1, 2, 3, 4 and 5/4, 5/2, 2, 4: 1/4, 1/2, 1 and none apart.
        fill(0, SIX, 12, 16, 18, 20);
        fill(1, SIX, 13, 17, 16, 20);
        worst(0, 1, 2, 3, 0);
        worst(1, 0, 2, 3, 0);
        x.put(1, 2, 29);
        worst(0, 1, 1, 2, 1);
        x.put(0, 3, 28);
        worst(0, 1, 1, 2, 2);
        // minus 1 and 1 are 2 apart.
        x.put(1, 0, 44);
        worst(0, 1, 0, 2, 2);
    }

    private static void worstFirstPlace() {
        makeFormats();
        check.sentence("Promise 18", "0 the first place (of those that differ alike)");
        fill(0, SIX, 12, 13, 12, 13);
        fill(1, SIX, 12, 12, 13, 12);
        worst(0, 1, 1, 3, 0);
        worst(1, 0, 1, 3, 0);
        check.due("row", 1, x.row(2, SIX, 16));
        check.due("row", 1, x.row(3, SIX, 16));
        check.due("put", 0, x.put(2, 15, 1));
        worst(2, 3, 15, 1, 0);
        check.due("put", 0, x.put(3, 0, 33));
        worst(2, 3, 0, 2, 0);
    }

    private static void worstNowhere() {
        makeFormats();
        check.sentence("Promise 18", "NONE: they differ nowhere");
        fill(0, SIX, 12, 29, 28, 60);
        fill(1, SIX, 12, 30, 28, 28);
        worst(0, 1, NONE, 0, 3);
        worst(0, 0, NONE, 0, 3);
        fill(2, SIX);
        fill(3, TEN);
        worst(2, 3, NONE, 0, 0);
        fill(2, SIX, 27);
        fill(3, SIX, 28);
        worst(2, 3, NONE, 0, 1);
        fill(3, SIX, 26);
        worst(2, 3, 0, 1, 0);
    }

    private static void worstOfZeros() {
        makeFormats();
        check.sentence("Promise 18", "(Both ZEROS are alike.)");
        fill(0, SIX, 0, 32, 32, 0);
        fill(1, SIX, 32, 0, 32, 1);
        worst(0, 1, 3, 1, 0);
        fill(0, SIX, 0, 32);
        fill(1, SIX, 32, 0);
        worst(0, 1, NONE, 0, 0);
    }

    private static void worstDiffer() {
        makeFormats();
        check.sentence("Promise 18", "1 at how many both are NUMBERS and differ");
        fill(0, SIX, 12, 12, 12, 29, 28, 27);
        fill(1, SIX, 12, 13, 44, 12, 12, 26);
        worst(0, 1, 2, 3, 2);
        check.due("row", 1, x.row(2, SIX, 16));
        check.due("row", 1, x.row(3, SIX, 16));
        for (int i = 0; i < 16; i++) {
            check.due("put", 0, x.put(2, i, 1));
        }
        worst(2, 3, 0, 16, 0);
    }

    private static void worstNoNumbers() {
        makeFormats();
        check.sentence("Promise 18", "2 at how many one is no NUMBER");
        fill(0, SIX, 28, 12, 28, 29, 12, 60, 27);
        fill(1, SIX, 12, 28, 28, 12, 63, 30, 27);
        worst(0, 1, NONE, 0, 6);
        worst(1, 0, NONE, 0, 6);
    }

    private static void worstByOneUnit() {
        makeFormats();
        check.sentence("Promise 18", "differ (by one UNIT: 5 and 6)");
        x.format(1, 2, 2, 3, false, 1);
        fill(0, 6, 1, 2, 3);
        fill(1, 6, 1, 1, 3);
        worst(0, 1, 1, 1, 0);
        worst(1, 0, 1, 1, 0);
        x.put(1, 0, 3);
        worst(0, 1, 0, 2, 0);
    }

    private static void worstOfAnyFormats() {
        makeFormats();
        check.sentence("Promise 18", "of any FORMATS");
        // 1 and 3/2 as SIX, PLAIN: 12, 14 and 2, 3.
        fill(0, SIX, 12, 14, 28);
        fill(1, PLAIN, 2, 3, 7);
        worst(0, 1, NONE, 0, 1);
        worst(1, 0, NONE, 0, 1);
        // The finest and the coarsest units: 2^-19 and 0, 63/32 and 64512, 1 and 1.
        fill(2, TEN, 1, 511, 480);
        fill(3, NINE, 0, 511, 16);
        worst(2, 3, 1, 2, 0);
        worst(3, 2, 1, 2, 0);
        // 63/32 and 62/32, then 1 and 30/32.
        x.put(3, 1, 31);
        worst(2, 3, 1, 2, 0);
        x.put(3, 2, 15);
        worst(2, 3, 2, 3, 0);
        fill(2, TEN, 480, 480);
        fill(3, NINE, 16, 16);
        worst(2, 3, NONE, 0, 0);
        x.put(2, 1, 481);
        worst(2, 3, 1, 1, 0);
    }

    private static void worstOfLengths() {
        makeFormats();
        check.sentence("Promise 18", "Of two ROWS as long; STATE: not as long");
        fill(0, SIX, 1, 2);
        fill(1, SIX, 1);
        fill(2, SIX);
        for (int what = 0; what <= 2; what++) {
            check.refused(x, "2 and 1", SmallFloats.STATE, x.worst(0, 1, what));
            check.refused(x, "1 and 2", SmallFloats.STATE, x.worst(1, 0, what));
            check.refused(x, "1 and 0", SmallFloats.STATE, x.worst(1, 2, what));
        }
        check.refused(x, "BAD ahead of STATE", BAD, x.worst(0, 1, 3));
        check.refused(x, "no such row ahead of STATE", BAD, x.worst(0, 3, 0));
        holds(0, 1, 2);
        fill(1, TEN, 1, 2);
        check.fine(x, "as long now", 1, x.worst(0, 1, 0));
    }
}
