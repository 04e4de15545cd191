/** Promises 21 and 22 sentence by sentence: table and lookup. */
public final class TableBoundsTest {
    private static final Check check = new Check("TableBoundsTest");
    private static final int SUM = 0, DIFFERENCE = 1, PRODUCT = 2, QUOTIENT = 3, ROOT = 4, LEAST = 5, MOST = 6;
    private static final int NO_PLACE = -1;
    // Numbers of makeFormats().
    private static final int SIX = 0, SMALLEST = 1, PLAIN = 2, SEVEN = 3, NO_FRACTION = 4, UNSIGNED_SIX = 5, TEN = 6;
    private static SmallFloats x;

    public static void main(String[] args) {
        places();
        bits();
        sameAsActs();
        acts();
        modes();
        invalidPlaces();
        invalidPlacesWithNone();
        notCounted();
        aNewTable();
        aRefusedTable();
        hundredTables();
        lookupWithoutTable();
        lookupBounds();
        lookupOfRoot();
        tableStays();
        check.end();
    }

    private static void makeFormats() {
        x = new SmallFloats();
        x.format(1, 3, 2, 3, true, 0);
        x.format(1, 1, 1, 0, true, 0);
        x.format(1, 2, 1, 1, true, 2);
        x.format(1, 3, 3, 0, true, 0);
        x.format(0, 3, 0, 0, true, 0);
        x.format(0, 4, 2, 0, true, 1);
        x.format(1, 4, 5, 15, true, 0);
    }

    private static void table(int format, int what, int mode, int places) {
        check.fine(x, "table(" + format + ", " + what + ", " + mode + ")", places, x.table(format, what, mode));
    }

    private static void lookup(int a, int b, int want) {
        check.fine(x, "lookup(" + a + ", " + b + ")", want, x.lookup(a, b));
    }

    private static void places() {
        makeFormats();
        check.sentence("Promise 21", "THE TABLE of an ACT is made: how many places");
        table(SMALLEST, SUM, 0, 64);
        table(NO_FRACTION, SUM, 0, 64);
        table(PLAIN, SUM, 0, 256);
        for (int what = SUM; what <= MOST; what++) {
            table(SIX, what, 5, 4096);
        }
        check.refused(x, "act 7", SmallFloats.BAD, x.table(SIX, 7, 5));
        check.refused(x, "act -1", SmallFloats.BAD, x.table(SIX, -1, 5));
    }

    private static void bits() {
        makeFormats();
        check.sentence("Promise 21", "for a FORMAT of 6 bits at most; STATE: more bits");
        table(SIX, SUM, 0, 4096);
        table(UNSIGNED_SIX, SUM, 0, 4096);
        check.refused(x, "7 bits", SmallFloats.STATE, x.table(SEVEN, SUM, 0));
        check.refused(x, "10 bits", SmallFloats.STATE, x.table(TEN, SUM, 0));
        check.refused(x, "7 bits, of ROOT", SmallFloats.STATE, x.table(SEVEN, ROOT, 0));
        lookup(0, 63, 63);
    }

    private static void sameAsActs() {
        check.sentence("Promise 22", "THE TABLE's CODE for a, b");
        for (int what = SUM; what <= MOST; what++) {
            makeFormats();
            SmallFloats other = new SmallFloats();
            check.due("format", 0, other.format(1, 1, 1, 0, true, 0));
            int mode = (what + 1) % 6;
            table(SMALLEST, what, mode, 64);
            for (int place = 0; place < 64; place++) {
                lookup(place / 8, place % 8, other.act(0, what, place / 8, place % 8, mode));
            }
        }
    }

    private static void acts() {
        makeFormats();
        check.sentence("Promise 21", "THE TABLE of an ACT");
        // 3 and 2; their ROOT is that of 3, 7/4.
        int[] due = {21, 12, 22, 14, 15, 16, 18};
        for (int what = SUM; what <= MOST; what++) {
            table(SIX, what, 0, 4096);
            lookup(18, 16, due[what]);
        }
    }

    private static void modes() {
        makeFormats();
        check.sentence("Promise 21", "by a MODE");
        int[] due = {5, 5, 5, 5, 6, 5};
        int[] minus = {37, 37, 37, 38, 37, 37};
        for (int mode = 0; mode < 6; mode++) {
            table(SIX, QUOTIENT, mode, 4096);
            lookup(12, 18, due[mode]);
            lookup(12, 32 + 18, minus[mode]);
        }
        check.refused(x, "mode 6", SmallFloats.BAD, x.table(SIX, QUOTIENT, 6));
        check.refused(x, "mode -1", SmallFloats.BAD, x.table(SIX, LEAST, -1));
        lookup(12, 18, 5);
    }

    private static void invalidPlaces() {
        makeFormats();
        check.sentence("Promise 21", "(of what is INVALID it has -1)");
        table(PLAIN, QUOTIENT, 0, 256);
        lookup(0, 0, NO_PLACE);
        lookup(8, 0, NO_PLACE);
        lookup(1, 0, 7);
        lookup(9, 0, 15);
        lookup(0, 1, 0);
        table(PLAIN, ROOT, 0, 256);
        lookup(9, 0, NO_PLACE);
        lookup(15, 0, NO_PLACE);
        lookup(8, 0, 8);
        table(NO_FRACTION, DIFFERENCE, 3, 64);
        lookup(7, 7, NO_PLACE);
        lookup(7, 6, 7);
        lookup(6, 7, 0);
        table(NO_FRACTION, PRODUCT, 3, 64);
        lookup(7, 0, NO_PLACE);
        lookup(0, 7, NO_PLACE);
        lookup(7, 1, 7);
        check.counts(x, "of places", 0, 0, 0);
    }

    /** NOTES.md: where there is THE NONE, INVALID is THE NONE, in a table as well. */
    private static void invalidPlacesWithNone() {
        makeFormats();
        check.sentence("Terms 2 and promise 21", "INVALID is THE NONE; where there is none the act is refused");
        table(SIX, QUOTIENT, 0, 4096);
        lookup(0, 0, 30);
        lookup(28, 60, 30);
        lookup(29, 0, 30);
        table(SIX, SUM, 0, 4096);
        lookup(28, 60, 30);
        lookup(28, 28, 28);
        check.counts(x, "of places", 0, 0, 0);
    }

    private static void notCounted() {
        makeFormats();
        check.sentence("Promise 23", "(not table())");
        for (int what = SUM; what <= MOST; what++) {
            table(SIX, what, 0, 4096);
            table(PLAIN, what, 0, 256);
        }
        lookup(7, 7, 7);
        check.counts(x, "after tables", 0, 0, 0);
        table(SIX, PRODUCT, 0, 4096);
        lookup(27, 27, 28);
        lookup(1, 1, 0);
        lookup(0, 28, 30);
        check.counts(x, "after places that are inexact, above GREAT, INVALID", 0, 0, 0);
        check.fine(x, "an exact act", 16, x.act(SIX, SUM, 12, 12, 0));
        check.counts(x, "after an exact act", 0, 0, 0);
    }

    private static void aNewTable() {
        makeFormats();
        check.sentence("Promise 21", "THE TABLE is made (there is one: the latest)");
        table(SIX, SUM, 0, 4096);
        lookup(12, 12, 16);
        table(SIX, PRODUCT, 0, 4096);
        lookup(12, 12, 12);
        table(PLAIN, SUM, 0, 256);
        lookup(2, 2, 4);
        check.refused(x, "a code of the format before", SmallFloats.BAD, x.lookup(16, 0));
        table(SIX, SUM, 0, 4096);
        lookup(63, 0, 30);
    }

    private static void aRefusedTable() {
        makeFormats();
        check.sentence("Terms 3 and promise 21", "Refused, and nothing changes but told()");
        table(PLAIN, SUM, 4, 256);
        check.refused(x, "BAD: format", SmallFloats.BAD, x.table(7, PRODUCT, 0));
        lookup(2, 2, 4);
        check.refused(x, "BAD: act", SmallFloats.BAD, x.table(SIX, 7, 0));
        lookup(2, 2, 4);
        check.refused(x, "BAD: mode", SmallFloats.BAD, x.table(SIX, PRODUCT, 6));
        lookup(2, 2, 4);
        check.refused(x, "STATE", SmallFloats.STATE, x.table(SEVEN, PRODUCT, 0));
        lookup(2, 2, 4);
        check.refused(x, "its bounds are as they were", SmallFloats.BAD, x.lookup(16, 0));
        lookup(4, 1, 5);
    }

    private static void hundredTables() {
        makeFormats();
        check.sentence("Promise 21", "FULL: 100 were made");
        check.refused(x, "one that is refused does not count", SmallFloats.STATE, x.table(SEVEN, SUM, 0));
        check.refused(x, "one that is refused does not count", SmallFloats.BAD, x.table(SIX, SUM, 6));
        for (int i = 1; i <= 99; i++) {
            table(SMALLEST, i % 7, i % 6, 64);
        }
        table(PLAIN, SUM, 0, 256);
        check.refused(x, "the 101st", SmallFloats.FULL, x.table(SIX, PRODUCT, 0));
        lookup(2, 2, 4);
        check.refused(x, "once more", SmallFloats.FULL, x.table(PLAIN, SUM, 0));
        check.refused(x, "STATE ahead of FULL", SmallFloats.STATE, x.table(SEVEN, SUM, 0));
        check.refused(x, "BAD ahead of FULL", SmallFloats.BAD, x.table(PLAIN, -1, 0));
        lookup(15, 0, 15);
    }

    private static void lookupWithoutTable() {
        x = new SmallFloats();
        check.sentence("Promise 22", "STATE: there is none (asked first)");
        check.refused(x, "no format", SmallFloats.STATE, x.lookup(0, 0));
        x.format(1, 3, 3, 0, true, 0);
        check.refused(x, "no table", SmallFloats.STATE, x.lookup(0, 0));
        check.refused(x, "a -1", SmallFloats.STATE, x.lookup(-1, 0));
        check.refused(x, "b greatest of all", SmallFloats.STATE, x.lookup(0, Integer.MAX_VALUE));
        check.refused(x, "7 bits", SmallFloats.STATE, x.table(0, SUM, 0));
        check.refused(x, "after a table that was refused", SmallFloats.STATE, x.lookup(0, 0));
        x.format(1, 1, 1, 0, true, 0);
        table(1, SUM, 0, 64);
        lookup(0, 0, 0);
    }

    private static void lookupBounds() {
        makeFormats();
        check.sentence("Promise 22", "BAD");
        table(SMALLEST, SUM, 0, 64);
        lookup(7, 7, 3);
        lookup(0, 7, 3);
        for (int wrong : new int[] {-1, 8, 63, 64, Integer.MIN_VALUE, Integer.MAX_VALUE}) {
            check.refused(x, "a " + wrong, SmallFloats.BAD, x.lookup(wrong, 0));
            check.refused(x, "b " + wrong, SmallFloats.BAD, x.lookup(0, wrong));
        }
        table(UNSIGNED_SIX, SUM, 0, 4096);
        lookup(63, 0, 63);
        check.refused(x, "a 64", SmallFloats.BAD, x.lookup(64, 0));
        check.refused(x, "b 64", SmallFloats.BAD, x.lookup(0, 64));
    }

    private static void lookupOfRoot() {
        makeFormats();
        check.sentence("Promises 8 and 22", "of ROOT b is not looked at (a place for each b is there)");
        table(SIX, ROOT, 0, 4096);
        for (int b : new int[] {0, 12, 28, 29, 63}) {
            lookup(20, b, 16);
            lookup(33, b, 30);
        }
        check.refused(x, "there is no place for b 64", SmallFloats.BAD, x.lookup(20, 64));
        check.refused(x, "there is no place for b -1", SmallFloats.BAD, x.lookup(20, -1));
    }

    private static void tableStays() {
        makeFormats();
        check.sentence("Promise 22", "THE TABLE's CODE, whatever comes between");
        table(PLAIN, SUM, 4, 256);
        x.format(1, 2, 1, 1, true, 1);
        x.act(PLAIN, PRODUCT, 5, 5, 4);
        x.row(0, PLAIN, 2);
        x.sum(0, 3, false);
        x.act(PLAIN, QUOTIENT, 0, 0, 0);
        lookup(2, 2, 4);
        lookup(0, 8, 0);
        lookup(4, 1, 5);
    }
}
