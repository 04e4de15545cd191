/** Promises 13 to 18: row, put, at, packed, quantise, worst. */
public final class RowTest {
    private static final Check check = new Check("RowTest");
    private static SmallFloats x;

    public static void main(String[] args) {
        row();
        putAndAt();
        packed();
        quantise();
        quantiseRefused();
        worst();
        worstBetweenFormats();
        check.end();
    }

    private static void makeFormats() {
        x = new SmallFloats();
        x.format(1, 3, 2, 3, true, 0);
        x.format(1, 2, 1, 1, true, 1);
        x.format(1, 1, 1, 1, true, 2);
        x.format(1, 4, 5, 15, true, 0);
        x.format(0, 3, 0, 0, true, 0);
    }

    private static void fill(int row, int format, int... codes) {
        check.due("row(" + row + ", " + format + ")", 1, x.row(row, format, codes.length));
        for (int i = 0; i < codes.length; i++) {
            check.due("put(" + row + ", " + i + ", " + codes[i] + ")", 0, x.put(row, i, codes[i]));
        }
    }

    private static void holds(int row, int... codes) {
        for (int i = 0; i < codes.length; i++) {
            check.due("at(" + row + ", " + i + ")", codes[i], x.at(row, i));
        }
        check.due("at(" + row + ", behind the last one)", SmallFloats.BAD, x.at(row, codes.length));
    }

    private static void row() {
        makeFormats();
        fill(0, 0, 1, 2, 3);
        fill(3, 1);
        holds(0, 1, 2, 3);
        holds(3);
        check.due("a row made anew", 1, x.row(0, 0, 2));
        check.due("told()", 0, x.told());
        holds(0, 0, 0);
        check.due("a row of 16", 1, x.row(0, 3, 16));
        check.due("its last code", 0, x.put(0, 15, 1023));
        check.refused(x, "17 codes", SmallFloats.BAD, x.row(0, 0, 17));
        check.refused(x, "-1 codes", SmallFloats.BAD, x.row(0, 0, -1));
        check.refused(x, "row 4", SmallFloats.BAD, x.row(4, 0, 1));
        check.refused(x, "row -1", SmallFloats.BAD, x.row(-1, 0, 1));
        check.refused(x, "format 5", SmallFloats.BAD, x.row(0, 5, 1));
        check.due("the row is as it was", 1023, x.at(0, 15));
    }

    private static void putAndAt() {
        makeFormats();
        x.row(1, 1, 3);
        check.due("put", 0, x.put(1, 2, 15));
        check.due("put again", 15, x.put(1, 2, 7));
        check.due("told()", 0, x.told());
        check.due("at", 7, x.at(1, 2));
        check.refused(x, "put of no such code", SmallFloats.BAD, x.put(1, 2, 16));
        check.refused(x, "put of code -1", SmallFloats.BAD, x.put(1, 2, -1));
        check.refused(x, "put behind the end", SmallFloats.BAD, x.put(1, 3, 0));
        check.refused(x, "put ahead", SmallFloats.BAD, x.put(1, -1, 0));
        check.refused(x, "put without a row", SmallFloats.BAD, x.put(2, 0, 0));
        check.refused(x, "put in row 4", SmallFloats.BAD, x.put(4, 0, 0));
        check.refused(x, "at behind the end", SmallFloats.BAD, x.at(1, 3));
        check.refused(x, "at ahead", SmallFloats.BAD, x.at(1, -1));
        check.refused(x, "at without a row", SmallFloats.BAD, x.at(0, 0));
        check.refused(x, "at in row -1", SmallFloats.BAD, x.at(-1, 0));
        holds(1, 0, 0, 7);
    }

    private static void bytes(int row, int... want) {
        check.due("packed(" + row + ", -1)", want.length, x.packed(row, -1));
        for (int i = 0; i < want.length; i++) {
            check.due("packed(" + row + ", " + i + ")", want[i], x.packed(row, i));
        }
        check.refused(x, "packed behind the end", SmallFloats.BAD, x.packed(row, want.length));
        check.refused(x, "packed at -2", SmallFloats.BAD, x.packed(row, -2));
    }

    private static void packed() {
        makeFormats();
        fill(0, 3, 0x2a5, 0x133, 0x3ff);
        bytes(0, 0xa5, 0xce, 0xf4, 0x3f);
        fill(1, 4, 1, 2, 3, 4, 5, 6, 7, 1, 2);
        bytes(1, 0xd1, 0x58, 0x3f, 0x02);
        fill(2, 2);
        bytes(2);
        fill(2, 1, 9, 6);
        bytes(2, 0x69);
        check.refused(x, "packed without a row", SmallFloats.BAD, x.packed(3, -1));
        check.refused(x, "packed of row 4", SmallFloats.BAD, x.packed(4, -1));
    }

    private static void quantise() {
        makeFormats();
        fill(0, 0, 12, 13, 45, 32, 27, 28, 29);
        check.due("quantise", 1, x.quantise(1, 0, 1, 0));
        check.due("told()", 0, x.told());
        holds(1, 2, 2, 10, 8, 7, 7, 7);
        check.counts(x, "after quantise", 3, 1, 0);
        holds(0, 12, 13, 45, 32, 27, 28, 29);
        check.due("quantise to the last row", 1, x.quantise(3, 1, 1, 0));
        holds(3, 2, 2, 10, 8, 7, 7, 7);
        check.due("quantise by AWAY", 1, x.quantise(1, 0, 1, 1));
        holds(1, 2, 3, 11, 8, 7, 7, 7);
        check.counts(x, "after quantise by AWAY", 6, 2, 0);
        check.due("quantise to the first row", 1, x.quantise(0, 3, 1, 0));
        holds(0, 2, 2, 10, 8, 7, 7, 7);
        fill(2, 0);
        check.due("quantise of an empty row", 1, x.quantise(1, 2, 2, 0));
        holds(1);
        check.due("the empty row has the new format", 0, x.dot(1, 1, 0, false));
        fill(2, 2, 1);
        check.refused(x, "its format is 2, not 0", SmallFloats.STATE, x.dot(1, 0, 0, false));
        check.due("its format is 2", 0, x.dot(1, 2, 0, false));
    }

    private static void quantiseRefused() {
        makeFormats();
        fill(0, 0, 13, 27, 29, 29);
        fill(1, 2, 1, 2, 3);
        check.refused(x, "a NONE to TOP 2", SmallFloats.INVALID, x.quantise(1, 0, 2, 0));
        holds(1, 1, 2, 3);
        check.counts(x, "after a refused quantise", 0, 0, 1);
        check.refused(x, "a NONE to a row that is not there", SmallFloats.INVALID, x.quantise(2, 0, 2, 0));
        check.refused(x, "that is not there yet", SmallFloats.BAD, x.at(2, 0));
        check.refused(x, "the same row", SmallFloats.BAD, x.quantise(0, 0, 1, 0));
        check.refused(x, "no row to take from", SmallFloats.BAD, x.quantise(1, 3, 1, 0));
        check.refused(x, "row 4", SmallFloats.BAD, x.quantise(4, 0, 1, 0));
        check.refused(x, "row -1", SmallFloats.BAD, x.quantise(-1, 0, 1, 0));
        check.refused(x, "from row 4", SmallFloats.BAD, x.quantise(1, 4, 1, 0));
        check.refused(x, "format 5", SmallFloats.BAD, x.quantise(1, 0, 5, 0));
        check.refused(x, "mode 6", SmallFloats.BAD, x.quantise(1, 0, 1, 6));
        check.refused(x, "BAD ahead of INVALID", SmallFloats.BAD, x.quantise(1, 0, 2, -1));
        holds(1, 1, 2, 3);
        check.counts(x, "after refused ones", 0, 0, 2);
    }

    private static void worst(int row, int other, int place, int differ, int none) {
        check.due("worst(" + row + ", " + other + ", 0)", place, x.worst(row, other, 0));
        check.due("worst(" + row + ", " + other + ", 1)", differ, x.worst(row, other, 1));
        check.due("worst(" + row + ", " + other + ", 2)", none, x.worst(row, other, 2));
        check.due("told()", 0, x.told());
    }

    private static void worst() {
        makeFormats();
        fill(0, 0, 0, 12, 12, 44, 28, 29, 5);
        fill(1, 0, 32, 13, 11, 12, 27, 63, 28);
        worst(0, 1, 3, 3, 3);
        worst(1, 0, 3, 3, 3);
        worst(0, 0, SmallFloats.NONE, 0, 2);
        fill(2, 0, 12, 12, 12, 12, 12, 12, 12);
        fill(3, 0, 11, 13, 10, 14, 14, 12, 12);
        worst(2, 3, 3, 5, 0);
        check.due("a shorter row", 1, x.row(1, 0, 6));
        check.refused(x, "not as long", SmallFloats.STATE, x.worst(0, 1, 0));
        check.refused(x, "BAD ahead of STATE", SmallFloats.BAD, x.worst(0, 1, 3));
        check.refused(x, "what -1", SmallFloats.BAD, x.worst(0, 0, -1));
        check.refused(x, "row 4", SmallFloats.BAD, x.worst(4, 0, 0));
        check.refused(x, "other -1", SmallFloats.BAD, x.worst(0, -1, 0));
        fill(0, 0);
        fill(1, 1);
        worst(0, 1, SmallFloats.NONE, 0, 0);
        makeFormats();
        fill(0, 0);
        check.refused(x, "no other row", SmallFloats.BAD, x.worst(0, 1, 0));
        check.refused(x, "no row", SmallFloats.BAD, x.worst(1, 0, 0));
    }

    /** In format 1 code 2 is 1, code 4 is 2; in format 3 code 480 is ENDLESS, 479 is 63/64. */
    private static void worstBetweenFormats() {
        makeFormats();
        fill(0, 1, 2, 4, 2, 0);
        fill(1, 0, 12, 16, 13, 32);
        worst(0, 1, 2, 1, 0);
        fill(1, 3, 479, 479, 480, 1);
        worst(0, 1, 1, 3, 1);
        worst(1, 0, 1, 3, 1);
        // 5 and 6 units are one unit apart, 16 codes are looked at, the first one and the last one, too.
        x.format(1, 2, 2, 3, false, 1);
        x.row(0, 5, 16);
        x.row(1, 5, 16);
        x.put(0, 15, 1);
        x.put(1, 15, 2);
        worst(0, 1, 15, 1, 0);
        x.put(0, 0, 3);
        x.put(1, 0, 2);
        worst(0, 1, 0, 2, 0);
        x.put(1, 0, 15);
        worst(0, 1, 15, 1, 1);
    }
}
