/**
 * An object in which something of all is there, and what it tells of it: a refused call is made on
 * such an object, and what the other calls tell must stand as it stood before.
 */
final class Scene {
    /** A call of the document's face with its arguments. */
    interface Call {
        long on(SmallFloats x);
    }

    // The formats of the scene, by their numbers; there is none behind the last one.
    static final int WIDE = 0, ONE = 1, PLAIN = 2, UNSIGNED = 3, LARGE = 4, SEVEN_BITS = 5, FORMATS = 6;

    private Scene() {
    }

    /** Rows 0 (of WIDE: 1, NONE, ENDLESS), 1 (of PLAIN) and 2 (of UNSIGNED: ENDLESS, 1) are there, row 3 is not. */
    static SmallFloats made() {
        SmallFloats x = new SmallFloats();
        x.format(1, 3, 2, 3, true, 0);
        x.format(1, 2, 1, 1, true, 1);
        x.format(1, 2, 1, 1, true, 2);
        x.format(0, 3, 0, 0, false, 0);
        x.format(1, 4, 5, 15, true, 0);
        x.format(1, 3, 3, 3, true, 1);
        fill(x, 0, WIDE, 12, 29, 28);
        fill(x, 1, PLAIN, 1, 2, 3);
        fill(x, 2, UNSIGNED, 7, 1);
        x.table(ONE, 0, 0);
        x.code(WIDE, 1, 3, 0);
        x.code(WIDE, 1000, 1, 0);
        x.act(WIDE, 3, 0, 0, 0);
        return x;
    }

    static void fill(SmallFloats x, int row, int format, int... codes) {
        x.row(row, format, codes.length);
        for (int i = 0; i < codes.length; i++) {
            x.put(row, i, codes[i]);
        }
    }

    static String counts(SmallFloats x) {
        return x.count(0) + " inexact, " + x.count(1) + " over, " + x.count(2) + " invalid, " + x.count(3) + " formats";
    }

    /** The formats, rows and the table as the calls tell them; told() is 0 afterwards. */
    static String seen(SmallFloats x) {
        StringBuilder text = new StringBuilder();
        for (int format = 0; format < x.count(3); format++) {
            text.append(" format ").append(format).append(':');
            for (int what = 0; what <= 6; what++) {
                text.append(' ').append(x.about(format, what));
            }
        }
        for (int row = 0; row < 4; row++) {
            seeRow(x, row, text);
        }
        text.append(" table:");
        for (int a = 0; a < 16; a += 3) {
            text.append(' ').append(x.lookup(a, 6));
        }
        x.about(0, 0);
        return text.toString();
    }

    private static void seeRow(SmallFloats x, int row, StringBuilder text) {
        text.append(" row ").append(row).append(": ").append(x.packed(row, -1)).append(" bytes");
        int last = 16;
        for (int i = 0; i < last; i++) {
            text.append(' ').append(x.at(row, i));
            if (x.told() != 0) {
                last = i;
            }
        }
    }
}
