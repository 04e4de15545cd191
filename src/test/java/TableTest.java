/** Promises 21 and 22: table and lookup. */
public final class TableTest {
    private static final Check check = new Check("TableTest");
    private static SmallFloats x;

    public static void main(String[] args) {
        places();
        sameAsActs();
        invalidPlaces();
        refused();
        full();
        check.end();
    }

    private static void makeFormats() {
        x = new SmallFloats();
        x.format(1, 3, 2, 3, true, 0);
        x.format(1, 1, 1, 0, true, 0);
        x.format(1, 2, 1, 1, true, 2);
        x.format(1, 3, 3, 0, true, 0);
        x.format(0, 3, 0, 0, true, 0);
    }

    private static void places() {
        makeFormats();
        check.due("6 bits", 4096, x.table(0, 0, 0));
        check.due("3 bits", 64, x.table(1, 0, 0));
        check.due("4 bits, ROOT", 256, x.table(2, 4, 0));
        check.due("told()", 0, x.told());
    }

    private static void sameAsActs() {
        for (int what = 0; what <= 6; what++) {
            makeFormats();
            SmallFloats other = new SmallFloats();
            other.format(1, 1, 1, 0, true, 0);
            int mode = what % 6;
            x.table(1, what, mode);
            for (int place = 0; place < 64; place++) {
                int a = place / 8;
                int b = place % 8;
                String call = "lookup(" + a + ", " + b + ") of act " + what;
                check.due(call, other.act(0, what, a, b, mode), x.lookup(a, b));
                check.due("told()", 0, x.told());
            }
            check.counts(x, "after a table", 0, 0, 0);
        }
    }

    private static void invalidPlaces() {
        makeFormats();
        x.table(2, 3, 0);
        check.due("ZERO by ZERO of TOP 2", -1, x.lookup(0, 8));
        check.due("told() after a place that has -1", 0, x.told());
        check.due("a NUMBER by ZERO of TOP 2", 15, x.lookup(9, 0));
        x.table(4, 1, 0);
        check.due("ENDLESS less ENDLESS", -1, x.lookup(7, 7));
        check.due("ENDLESS less ONE", 7, x.lookup(7, 1));
        x.table(1, 3, 0);
        check.due("ZERO by ZERO, where there is THE NONE", 3, x.lookup(0, 0));
        check.counts(x, "after invalid places", 0, 0, 0);
    }

    private static void refused() {
        makeFormats();
        check.refused(x, "no table, asked first", SmallFloats.STATE, x.lookup(-1, 0));
        check.refused(x, "7 bits", SmallFloats.STATE, x.table(3, 0, 0));
        check.refused(x, "BAD ahead of STATE", SmallFloats.BAD, x.table(3, 7, 0));
        check.refused(x, "what -1", SmallFloats.BAD, x.table(0, -1, 0));
        check.refused(x, "mode 6", SmallFloats.BAD, x.table(0, 0, 6));
        check.refused(x, "mode -1", SmallFloats.BAD, x.table(0, 6, -1));
        check.refused(x, "format 5", SmallFloats.BAD, x.table(5, 0, 0));
        check.refused(x, "still no table", SmallFloats.STATE, x.lookup(0, 0));
        x.table(1, 4, 0);
        check.refused(x, "a 8", SmallFloats.BAD, x.lookup(8, 0));
        check.refused(x, "a -1", SmallFloats.BAD, x.lookup(-1, 0));
        check.refused(x, "b -1", SmallFloats.BAD, x.lookup(0, -1));
        check.refused(x, "b 8, of ROOT too", SmallFloats.BAD, x.lookup(0, 8));
        check.refused(x, "another table is refused", SmallFloats.STATE, x.table(3, 0, 0));
        check.due("the table is as it was", 1, x.lookup(1, 7));
    }

    private static void full() {
        makeFormats();
        for (int i = 0; i < 100; i++) {
            check.refused(x, "a refused one does not count", SmallFloats.STATE, x.table(3, 0, 0));
            check.due("table " + i, 64, x.table(1, 0, 0));
        }
        check.refused(x, "the 101st", SmallFloats.FULL, x.table(2, 3, 0));
        check.refused(x, "STATE ahead of FULL", SmallFloats.STATE, x.table(3, 0, 0));
        check.refused(x, "BAD ahead of FULL", SmallFloats.BAD, x.table(0, 0, 6));
        check.due("the table is as it was", 1, x.lookup(0, 1));
    }
}
