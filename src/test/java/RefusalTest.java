import java.util.function.IntFunction;

/**
 * Terms 3 and each promise: what is refused, by which reason, and that nothing changes. Each call is
 * made on a new scene, whose counts, formats, rows and table must stand afterwards as before; next to
 * the first argument that is refused stands the last one that is not.
 */
public final class RefusalTest {
    private static final Check check = new Check("RefusalTest");
    private static final int BAD = SmallFloats.BAD, STATE = SmallFloats.STATE;
    private static final int FULL = SmallFloats.FULL, INVALID = SmallFloats.INVALID;
    private static final int LEAST_INT = Integer.MIN_VALUE, GREATEST_INT = Integer.MAX_VALUE;
    private static final String CHANGES_NOTHING = "Refused, and nothing changes but told(), the first of these";

    public static void main(String[] args) {
        format();
        formatIsFull();
        about();
        kind();
        units();
        code();
        cross();
        act();
        fused();
        next();
        order();
        numbers();
        row();
        put();
        at();
        packed();
        quantise();
        worst();
        sum();
        dot();
        table();
        tablesAreFull();
        lookup();
        badAheadOfOthers();
        stateAheadOfOthers();
        check.end();
    }

    /** A refused call: by the reason, and nothing changes but told() (and one INVALID is counted). */
    private static void refused(int reason, String name, Scene.Call call) {
        refused(Scene.made(), reason, reason, name, call);
    }

    private static void refused(SmallFloats x, int reason, long answer, String name, Scene.Call call) {
        String seen = Scene.seen(x);
        int invalid = x.count(2);
        String counts = Scene.counts(x);
        check.due(name, answer, call.on(x));
        check.due("told() after " + name, reason, x.told());
        if (reason == INVALID) {
            check.due("count(2) after " + name, invalid + 1, x.count(2));
            counts = counts.replace(invalid + " invalid", invalid + 1 + " invalid");
        }
        check.same("the counts after " + name, counts, Scene.counts(x));
        check.due("told() still, after " + name, reason, x.told());
        check.same("the scene after " + name, seen, Scene.seen(x));
        check.due("told() after a call that is fine", 0, x.told());
    }

    private static void bad(String name, Scene.Call call) {
        refused(BAD, name, call);
    }

    /** A call that is not refused, at the edge of what is. */
    private static void fine(long want, String name, Scene.Call call) {
        SmallFloats x = Scene.made();
        check.refused(x, "about(-1, 0)", BAD, x.about(-1, 0));
        check.fine(x, name, want, call.on(x));
    }

    private static void format() {
        check.sentence("Promise 2 and Terms 1", "s sign bits (0, 1), e exponent bits (1 .. 4), .. TOP: 0, 1, 2; BAD");
        bad("s -1", x -> x.format(-1, 3, 3, 0, true, 0));
        fine(6, "s 0", x -> x.format(0, 3, 3, 0, true, 0));
        fine(6, "s 1", x -> x.format(1, 3, 3, 0, true, 0));
        bad("s 2", x -> x.format(2, 3, 3, 0, true, 0));
        bad("e 0", x -> x.format(1, 0, 3, 0, true, 0));
        fine(6, "e 1", x -> x.format(1, 1, 3, 0, true, 0));
        fine(6, "e 4", x -> x.format(1, 4, 3, 0, true, 0));
        bad("e 5", x -> x.format(1, 5, 3, 0, true, 0));
        bad("f -1", x -> x.format(1, 3, -1, 0, true, 0));
        fine(6, "f 0", x -> x.format(1, 3, 0, 0, true, 0));
        fine(6, "f 5", x -> x.format(1, 3, 5, 0, true, 0));
        bad("f 6", x -> x.format(1, 3, 6, 0, true, 0));
        bad("bias -1", x -> x.format(1, 3, 3, -1, true, 0));
        fine(6, "bias 0", x -> x.format(1, 3, 3, 0, true, 0));
        fine(6, "bias 15", x -> x.format(1, 3, 3, 15, true, 0));
        bad("bias 16", x -> x.format(1, 3, 3, 16, true, 0));
        bad("top -1", x -> x.format(1, 3, 3, 0, true, -1));
        fine(6, "top 0", x -> x.format(1, 3, 3, 0, true, 0));
        fine(6, "top 2", x -> x.format(1, 3, 3, 0, true, 2));
        bad("top 3", x -> x.format(1, 3, 3, 0, true, 3));
        bad("s least of all", x -> x.format(LEAST_INT, 3, 3, 0, true, 0));
        bad("e greatest of all", x -> x.format(1, GREATEST_INT, 3, 0, true, 0));
        bad("s, e, f whose sum wraps around", x -> x.format(1, GREATEST_INT, GREATEST_INT, 0, true, 0));
        check.sentence("Promise 2", "BAD: also fewer than 3 bits in all");
        bad("1, 1, 0", x -> x.format(1, 1, 0, 0, true, 0));
        bad("0, 1, 1", x -> x.format(0, 1, 1, 0, true, 1));
        bad("0, 2, 0", x -> x.format(0, 2, 0, 0, true, 2));
        bad("0, 1, 0", x -> x.format(0, 1, 0, 0, false, 2));
        fine(6, "1, 1, 1", x -> x.format(1, 1, 1, 0, true, 0));
        fine(6, "1, 2, 0", x -> x.format(1, 2, 0, 0, true, 0));
        fine(6, "0, 1, 2", x -> x.format(0, 1, 2, 0, true, 0));
        fine(6, "0, 2, 1", x -> x.format(0, 2, 1, 0, true, 0));
        fine(6, "0, 3, 0", x -> x.format(0, 3, 0, 0, true, 0));
    }

    private static SmallFloats tenFormats() {
        SmallFloats x = Scene.made();
        for (int bias = 1; bias <= 4; bias++) {
            check.due("format " + (5 + bias), 5 + bias, x.format(0, 2, 2, bias, true, 0));
        }
        return x;
    }

    private static void formatIsFull() {
        check.sentence("Promise 2 and Terms 1", "A FORMAT (10 at most); FULL");
        refused(tenFormats(), FULL, FULL, "an eleventh", x -> x.format(0, 2, 2, 5, true, 0));
        SmallFloats full = tenFormats();
        check.fine(full, "the tenth is there", 4, full.about(9, 0));
        check.sentence("Promise 2", "of one that is alike the one that is there: its");
        check.fine(full, "the first once more", 0, full.format(1, 3, 2, 3, true, 0));
        check.fine(full, "the tenth once more", 9, full.format(0, 2, 2, 4, true, 0));
        check.due("count(3)", 10, full.count(3));
        check.sentence("Terms 3 and promise 2", "the first of these: BAD, STATE, FULL, INVALID");
        refused(tenFormats(), BAD, BAD, "an eleventh that is BAD", x -> x.format(0, 2, 2, 16, true, 0));
    }

    /** The argument that is a format's number: the last one that is there, the first one that is not. */
    private static void formatNumbers(String name, int lastAnswer, IntFunction<Scene.Call> calls) {
        bad(name + " -1", calls.apply(-1));
        fine(lastAnswer, name + " of the last one", calls.apply(Scene.FORMATS - 1));
        bad(name + " behind the last one", calls.apply(Scene.FORMATS));
        bad(name + " 9", calls.apply(9));
        bad(name + " 10", calls.apply(10));
        bad(name + " least of all", calls.apply(LEAST_INT));
        bad(name + " greatest of all", calls.apply(GREATEST_INT));
    }

    private static void modes(String name, long answer, IntFunction<Scene.Call> calls) {
        bad(name + ", mode -1", calls.apply(-1));
        fine(answer, name + ", mode 0", calls.apply(0));
        fine(answer, name + ", mode 5", calls.apply(5));
        bad(name + ", mode 6", calls.apply(6));
        bad(name + ", mode greatest of all", calls.apply(GREATEST_INT));
    }

    private static void rowNumbers(String name, IntFunction<Scene.Call> calls) {
        bad(name + " -1", calls.apply(-1));
        bad(name + " 4", calls.apply(4));
        bad(name + " least of all", calls.apply(LEAST_INT));
        bad(name + " greatest of all", calls.apply(GREATEST_INT));
    }

    private static void about() {
        check.sentence("Promise 3", "Of a FORMAT: 0 .. 6. BAD");
        formatNumbers("about", 7, format -> x -> x.about(format, 0));
        bad("what -1", x -> x.about(0, -1));
        fine(6, "what 0", x -> x.about(0, 0));
        fine(5, "what 6", x -> x.about(0, 6));
        bad("what 7", x -> x.about(0, 7));
    }

    private static void kind() {
        check.sentence("Promise 4 and Terms 1", "CODES are 0 .. 2^(s + e + f) - 1; BAD");
        formatNumbers("kind", 0, format -> x -> x.kind(format, 0, 0));
        bad("what -1", x -> x.kind(0, 0, -1));
        fine(0, "what 1", x -> x.kind(0, 0, 1));
        bad("what 2", x -> x.kind(0, 0, 2));
        bad("code -1", x -> x.kind(0, -1, 0));
        fine(4, "the last code of 6 bits", x -> x.kind(Scene.WIDE, 63, 0));
        bad("code 64 of 6 bits", x -> x.kind(Scene.WIDE, 64, 0));
        fine(3, "the last code of 3 bits", x -> x.kind(Scene.UNSIGNED, 7, 0));
        bad("code 8 of 3 bits", x -> x.kind(Scene.UNSIGNED, 8, 0));
        fine(4, "the last code of 10 bits", x -> x.kind(Scene.LARGE, 1023, 0));
        bad("code 1024 of 10 bits", x -> x.kind(Scene.LARGE, 1024, 0));
        bad("code least of all", x -> x.kind(0, LEAST_INT, 0));
        bad("code greatest of all", x -> x.kind(0, GREATEST_INT, 0));
    }

    private static void notUnits(String name, Scene.Call call) {
        refused(Scene.made(), BAD, SmallFloats.NO, name, call);
    }

    private static void units() {
        check.sentence("Promise 5", "NO: BAD");
        notUnits("format -1", x -> x.units(-1, 0));
        notUnits("format 6", x -> x.units(Scene.FORMATS, 0));
        notUnits("format 10", x -> x.units(10, 0));
        fine(0, "the last format", x -> x.units(5, 0));
        notUnits("code -1", x -> x.units(0, -1));
        fine(-448, "the least NUMBER's code", x -> x.units(0, 59));
        notUnits("code 64 of 6 bits", x -> x.units(0, 64));
        fine(-24, "the last code of TOP 2", x -> x.units(Scene.PLAIN, 15));
        notUnits("code 16 of 4 bits", x -> x.units(Scene.PLAIN, 16));
    }

    private static void code() {
        check.sentence("Promise 6", "p -2^40 .. 2^40, q 1 .. 2^20. BAD");
        formatNumbers("code", 0, format -> x -> x.code(format, 0, 1, 0));
        modes("code", 12, mode -> x -> x.code(0, 1, 1, mode));
        bad("p -2^40 - 1", x -> x.code(0, -(1L << 40) - 1, 1, 0));
        fine(60, "p -2^40", x -> x.code(0, -(1L << 40), 1, 0));
        fine(28, "p 2^40", x -> x.code(0, 1L << 40, 1, 0));
        bad("p 2^40 + 1", x -> x.code(0, (1L << 40) + 1, 1, 0));
        bad("p least of all", x -> x.code(0, Long.MIN_VALUE, 1, 0));
        bad("p greatest of all", x -> x.code(0, Long.MAX_VALUE, 1, 0));
        bad("q least of all", x -> x.code(0, 1, Long.MIN_VALUE, 0));
        bad("q -1", x -> x.code(0, 1, -1, 0));
        bad("q 0", x -> x.code(0, 1, 0, 0));
        bad("p 0, q 0", x -> x.code(0, 0, 0, 0));
        fine(12, "q 1", x -> x.code(0, 1, 1, 0));
        fine(12, "q 2^20", x -> x.code(0, 1 << 20, 1 << 20, 0));
        bad("q 2^20 + 1", x -> x.code(0, 1, (1 << 20) + 1, 0));
        bad("q 2^32 + 1", x -> x.code(0, 1, (1L << 32) + 1, 0));
    }

    private static void cross() {
        check.sentence("Promise 7", "BAD; INVALID");
        formatNumbers("cross", 0, format -> x -> x.cross(format, 0, 0, 0));
        formatNumbers("cross to", 0, format -> x -> x.cross(0, 0, format, 0));
        modes("cross", 2, mode -> x -> x.cross(0, 12, Scene.PLAIN, mode));
        bad("code -1", x -> x.cross(Scene.PLAIN, -1, 0, 0));
        fine(62 - 8, "the last code of the format it is of", x -> x.cross(Scene.PLAIN, 15, 0, 0));
        bad("a code of the other format alone", x -> x.cross(Scene.PLAIN, 16, 0, 0));
        refused(INVALID, "NONE where there is none (TOP 2)", x -> x.cross(0, 29, Scene.PLAIN, 0));
        refused(INVALID, "NONE where there is none (f 0)", x -> x.cross(0, 63, Scene.UNSIGNED, 5));
        fine(7, "NONE where there is one", x -> x.cross(0, 29, Scene.ONE, 0));
        fine(7, "ENDLESS where there is none", x -> x.cross(0, 28, Scene.PLAIN, 0));
    }

    private static void act() {
        check.sentence("Promise 8 and Terms 2", "An ACT (0 .. 6) (of ROOT b is not looked at). BAD; INVALID");
        formatNumbers("act", 0, format -> x -> x.act(format, 0, 0, 0, 0));
        modes("act", 12, mode -> x -> x.act(0, 2, 12, 12, mode));
        bad("what -1", x -> x.act(0, -1, 12, 12, 0));
        fine(16, "what 0", x -> x.act(0, 0, 12, 12, 0));
        fine(12, "what 6", x -> x.act(0, 6, 12, 12, 0));
        bad("what 7", x -> x.act(0, 7, 12, 12, 0));
        bad("a -1", x -> x.act(0, 0, -1, 0, 0));
        fine(30, "a 63", x -> x.act(0, 0, 63, 0, 0));
        bad("a 64", x -> x.act(0, 0, 64, 0, 0));
        bad("b -1", x -> x.act(0, 0, 0, -1, 0));
        fine(30, "b 63", x -> x.act(0, 0, 0, 63, 0));
        bad("b 64", x -> x.act(0, 0, 0, 64, 0));
        for (int what = 0; what <= 6; what++) {
            int act = what;
            bad("a of act " + act, x -> x.act(0, act, 64, 0, 0));
            if (act != 4) {
                bad("b of act " + act, x -> x.act(0, act, 12, 64, 0));
            }
        }
        fine(12, "b of ROOT -1", x -> x.act(0, 4, 12, -1, 0));
        fine(12, "b of ROOT 64", x -> x.act(0, 4, 12, 64, 0));
        fine(12, "b of ROOT least of all", x -> x.act(0, 4, 12, LEAST_INT, 0));
        refused(INVALID, "ZERO by ZERO of TOP 2", x -> x.act(Scene.PLAIN, 3, 0, 8, 0));
        refused(INVALID, "ENDLESS less ENDLESS of f 0", x -> x.act(Scene.UNSIGNED, 1, 7, 7, 0));
    }

    private static void fused() {
        check.sentence("Promise 9", "FUSED. BAD; INVALID");
        formatNumbers("fused", 0, format -> x -> x.fused(format, 0, 0, 0, 0));
        modes("fused", 16, mode -> x -> x.fused(0, 12, 12, 12, mode));
        bad("a -1", x -> x.fused(0, -1, 0, 0, 0));
        fine(30, "a 63", x -> x.fused(0, 63, 0, 0, 0));
        bad("a 64", x -> x.fused(0, 64, 0, 0, 0));
        bad("b -1", x -> x.fused(0, 0, -1, 0, 0));
        fine(30, "b 63", x -> x.fused(0, 0, 63, 0, 0));
        bad("b 64", x -> x.fused(0, 0, 64, 0, 0));
        bad("c -1", x -> x.fused(0, 0, 0, -1, 0));
        fine(30, "c 63", x -> x.fused(0, 0, 0, 63, 0));
        bad("c 64", x -> x.fused(0, 0, 0, 64, 0));
        refused(INVALID, "ENDLESS times ZERO of f 0", x -> x.fused(Scene.UNSIGNED, 7, 0, 1, 0));
        refused(INVALID, "ZERO times ENDLESS of f 0", x -> x.fused(Scene.UNSIGNED, 0, 7, 7, 0));
    }

    private static void next() {
        check.sentence("Promise 10", "BAD: no NUMBER, too");
        formatNumbers("next", 1, format -> x -> x.next(format, 0, true));
        bad("code -1", x -> x.next(0, -1, true));
        fine(SmallFloats.NONE, "minus GREAT", x -> x.next(0, 59, false));
        fine(58, "minus GREAT, up", x -> x.next(0, 59, true));
        bad("minus ENDLESS", x -> x.next(0, 60, true));
        bad("a NONE with a sign", x -> x.next(0, 63, true));
        bad("code 64", x -> x.next(0, 64, true));
        fine(26, "GREAT", x -> x.next(0, 27, false));
        bad("ENDLESS", x -> x.next(0, 28, false));
        bad("a NONE", x -> x.next(0, 29, false));
        bad("the NONE of TOP 1", x -> x.next(Scene.ONE, 7, false));
        bad("the other NONE of TOP 1", x -> x.next(Scene.ONE, 15, true));
        fine(6, "the last code of TOP 2", x -> x.next(Scene.PLAIN, 7, false));
    }

    private static void order() {
        check.sentence("Promise 11", "Two CODES by what they are. BAD");
        formatNumbers("order", 0, format -> x -> x.order(format, 0, 0));
        bad("a -1", x -> x.order(0, -1, 0));
        fine(2, "a 63", x -> x.order(0, 63, 0));
        bad("a 64", x -> x.order(0, 64, 0));
        bad("b -1", x -> x.order(0, 0, -1));
        fine(2, "b 63", x -> x.order(0, 0, 63));
        bad("b 64", x -> x.order(0, 0, 64));
        bad("b no code, a NONE", x -> x.order(0, 29, 64));
    }

    private static void numbers() {
        check.sentence("Promise 12", "How many CODES are NUMBERS from low to high UNITS. BAD");
        formatNumbers("numbers", 2, format -> x -> x.numbers(format, 0, 0));
        fine(0, "high just below low", x -> x.numbers(0, 1, 0));
        fine(0, "low greatest, high least of all", x -> x.numbers(0, Long.MAX_VALUE, Long.MIN_VALUE));
    }

    private static void row() {
        check.sentence("Promise 13 and Terms 3", "ROWS 0 .. 3 are of a FORMAT, with 0 .. 16 CODES; BAD");
        rowNumbers("row", row -> x -> x.row(row, 0, 1));
        fine(1, "row 0", x -> x.row(0, 0, 1));
        fine(1, "row 3", x -> x.row(3, 0, 1));
        formatNumbers("row of format", 1, format -> x -> x.row(0, format, 1));
        bad("n -1", x -> x.row(0, 0, -1));
        fine(1, "n 0", x -> x.row(0, 0, 0));
        fine(1, "n 16", x -> x.row(0, 0, 16));
        bad("n 17", x -> x.row(0, 0, 17));
        bad("n least of all", x -> x.row(0, 0, LEAST_INT));
        bad("n greatest of all", x -> x.row(0, 0, GREATEST_INT));
    }

    private static void put() {
        check.sentence("Promise 14", "BAD: also no such ROW");
        rowNumbers("put in row", row -> x -> x.put(row, 0, 1));
        bad("a row that is not there", x -> x.put(3, 0, 0));
        bad("i -1", x -> x.put(0, -1, 0));
        fine(12, "i 0", x -> x.put(0, 0, 0));
        fine(28, "i 2 of three", x -> x.put(0, 2, 0));
        bad("i 3 of three", x -> x.put(0, 3, 0));
        bad("i greatest of all", x -> x.put(0, GREATEST_INT, 0));
        bad("code -1", x -> x.put(1, 0, -1));
        fine(1, "the last code of the row's format", x -> x.put(1, 0, 15));
        bad("a code of another format alone", x -> x.put(1, 0, 16));
    }

    private static void at() {
        check.sentence("Promise 15", "A CODE of a ROW. BAD");
        rowNumbers("at in row", row -> x -> x.at(row, 0));
        bad("a row that is not there", x -> x.at(3, 0));
        bad("i -1", x -> x.at(0, -1));
        fine(12, "i 0", x -> x.at(0, 0));
        fine(28, "i 2 of three", x -> x.at(0, 2));
        bad("i 3 of three", x -> x.at(0, 3));
        bad("i 16", x -> x.at(0, 16));
        bad("i least of all", x -> x.at(0, LEAST_INT));
    }

    private static void packed() {
        check.sentence("Promise 16", "Byte i of a ROW PACKED; i = -1: how many there are. BAD");
        rowNumbers("packed of row", row -> x -> x.packed(row, -1));
        bad("a row that is not there", x -> x.packed(3, -1));
        bad("i -2", x -> x.packed(0, -2));
        fine(3, "i -1", x -> x.packed(0, -1));
        fine(0x4c, "i 0", x -> x.packed(0, 0));
        fine(0x01, "i 2 of three bytes", x -> x.packed(0, 2));
        bad("i 3 of three bytes", x -> x.packed(0, 3));
        bad("i least of all", x -> x.packed(0, LEAST_INT));
        bad("i greatest of all", x -> x.packed(0, GREATEST_INT));
    }

    private static void quantise() {
        check.sentence("Promise 17", "BAD: also the same ROW; INVALID: of one (then nothing changes)");
        rowNumbers("quantise to row", row -> x -> x.quantise(row, 0, 0, 0));
        rowNumbers("quantise from row", row -> x -> x.quantise(0, row, 0, 0));
        bad("from a row that is not there", x -> x.quantise(0, 3, 0, 0));
        fine(1, "to row 0", x -> x.quantise(0, 1, 0, 0));
        fine(1, "to row 3, which is not there", x -> x.quantise(3, 0, 0, 0));
        fine(1, "from row 2", x -> x.quantise(1, 2, 0, 0));
        for (int row = 0; row < 4; row++) {
            int same = row;
            bad("the same row " + same, x -> x.quantise(same, same, 0, 0));
        }
        formatNumbers("quantise, format", 1, format -> x -> x.quantise(3, 1, format, 0));
        modes("quantise", 1, mode -> x -> x.quantise(3, 1, 0, mode));
        refused(INVALID, "one NONE to TOP 2", x -> x.quantise(1, 0, Scene.PLAIN, 0));
        refused(INVALID, "one NONE to f 0, of a row that is not there", x -> x.quantise(3, 0, Scene.UNSIGNED, 0));
    }

    private static void worst() {
        check.sentence("Promise 18", "Of two ROWS as long. BAD; STATE: not as long");
        rowNumbers("worst of row", row -> x -> x.worst(row, 0, 0));
        rowNumbers("worst with row", row -> x -> x.worst(0, row, 0));
        bad("a row that is not there", x -> x.worst(3, 0, 0));
        bad("with a row that is not there", x -> x.worst(0, 3, 0));
        bad("what -1", x -> x.worst(0, 1, -1));
        fine(0, "what 0", x -> x.worst(0, 1, 0));
        fine(2, "what 2", x -> x.worst(0, 1, 2));
        bad("what 3", x -> x.worst(0, 1, 3));
        refused(STATE, "one longer", x -> x.worst(0, 2, 0));
        refused(STATE, "one shorter", x -> x.worst(2, 1, 2));
    }

    private static void sum() {
        check.sentence("Promise 19", "SUM of a ROW. BAD; INVALID (STEPWISE: at the first)");
        rowNumbers("sum of row", row -> x -> x.sum(row, 0, false));
        rowNumbers("stepwise sum of row", row -> x -> x.sum(row, 0, true));
        bad("a row that is not there", x -> x.sum(3, 0, false));
        bad("a row that is not there, stepwise", x -> x.sum(3, 0, true));
        modes("sum", 5, mode -> x -> x.sum(1, mode, false));
        modes("sum, stepwise", 7, mode -> x -> x.sum(2, mode, true));
        SmallFloats exact = endlessOfBothSigns();
        refused(exact, INVALID, INVALID, "exact", x -> x.sum(3, 0, false));
        refused(exact, INVALID, INVALID, "stepwise", x -> x.sum(3, 0, true));
    }

    /** Row 3: 8, 8 (their sum goes above GREAT), ENDLESS and minus ENDLESS; its format has no NONE. */
    private static SmallFloats endlessOfBothSigns() {
        SmallFloats x = Scene.made();
        check.due("a format without NONE", 6, x.format(1, 3, 0, 3, true, 0));
        Scene.fill(x, 3, 6, 6, 6, 7, 15);
        return x;
    }

    private static void dot() {
        check.sentence("Promise 20", "DOT of two ROWS of one FORMAT. BAD; STATE: of two; INVALID (likewise)");
        rowNumbers("dot of row", row -> x -> x.dot(row, 0, 0, false));
        rowNumbers("dot with row", row -> x -> x.dot(0, row, 0, true));
        bad("a row that is not there", x -> x.dot(3, 0, 0, false));
        bad("with a row that is not there", x -> x.dot(0, 3, 0, true));
        modes("dot", 7, mode -> x -> x.dot(2, 2, mode, false));
        modes("dot, stepwise", 7, mode -> x -> x.dot(2, 2, mode, true));
        refused(STATE, "of two formats", x -> x.dot(0, 1, 0, false));
        refused(STATE, "of two formats, stepwise", x -> x.dot(1, 2, 0, true));
        SmallFloats both = endlessOfBothSigns();
        Scene.fill(both, 2, 6, 6, 6, 0, 3);
        refused(both, INVALID, INVALID, "ENDLESS times ZERO", x -> x.dot(3, 2, 0, false));
        refused(both, INVALID, INVALID, "ENDLESS times ZERO, stepwise", x -> x.dot(3, 2, 0, true));
        SmallFloats other = Scene.made();
        check.due("a format that differs in its bias alone", 6, other.format(1, 3, 2, 4, true, 0));
        Scene.fill(other, 3, 6, 12, 29, 28);
        refused(other, STATE, STATE, "of two formats with alike codes", x -> x.dot(0, 3, 0, false));
        refused(other, STATE, STATE, "of two formats with alike codes, stepwise", x -> x.dot(3, 0, 0, true));
    }

    private static void table() {
        check.sentence("Promise 21", "for a FORMAT of 6 bits at most. BAD; STATE: more bits");
        bad("format -1", x -> x.table(-1, 0, 0));
        bad("format 6", x -> x.table(Scene.FORMATS, 0, 0));
        bad("format 10", x -> x.table(10, 0, 0));
        modes("table", 256, mode -> x -> x.table(Scene.ONE, 0, mode));
        bad("what -1", x -> x.table(Scene.ONE, -1, 0));
        fine(256, "what 0", x -> x.table(Scene.ONE, 0, 0));
        fine(256, "what 6", x -> x.table(Scene.ONE, 6, 0));
        bad("what 7", x -> x.table(Scene.ONE, 7, 0));
        fine(4096, "6 bits", x -> x.table(Scene.WIDE, 0, 0));
        refused(STATE, "7 bits", x -> x.table(Scene.SEVEN_BITS, 0, 0));
        refused(STATE, "10 bits", x -> x.table(Scene.LARGE, 0, 0));
    }

    /** Refused ones do not count: the scene has made one table, 99 more are fine. */
    private static SmallFloats hundredTables() {
        SmallFloats x = Scene.made();
        for (int i = 1; i < 100; i++) {
            check.due("table(1, 7, 0)", BAD, x.table(Scene.ONE, 7, 0));
            check.due("table " + i, 256, x.table(Scene.ONE, 2, 0));
        }
        return x;
    }

    private static void tablesAreFull() {
        check.sentence("Promise 21", "FULL: 100 were made");
        SmallFloats x = hundredTables();
        check.refused(x, "the 101st", FULL, x.table(Scene.PLAIN, 3, 0));
        check.fine(x, "the hundredth is there: 1 times 4", 6, x.lookup(2, 6));
        check.refused(x, "the 102nd, alike the hundredth", FULL, x.table(Scene.ONE, 2, 0));
        check.sentence("Terms 3 and promise 21", "the first of these: BAD, STATE, FULL");
        check.refused(x, "BAD ahead of FULL", BAD, x.table(Scene.ONE, 2, 6));
        check.refused(x, "STATE ahead of FULL", STATE, x.table(Scene.SEVEN_BITS, 2, 0));
        check.fine(x, "the hundredth is still there", 6, x.lookup(2, 6));
    }

    private static void lookup() {
        check.sentence("Promise 22", "STATE: there is none (asked first); BAD");
        SmallFloats empty = new SmallFloats();
        check.refused(empty, "no table, no format", STATE, empty.lookup(0, 0));
        empty.format(1, 2, 1, 1, true, 1);
        check.refused(empty, "no table, a -1", STATE, empty.lookup(-1, 0));
        check.refused(empty, "no table, b 16", STATE, empty.lookup(0, 16));
        bad("a -1", x -> x.lookup(-1, 0));
        fine(7, "a 15", x -> x.lookup(15, 0));
        bad("a 16", x -> x.lookup(16, 0));
        bad("b -1", x -> x.lookup(0, -1));
        fine(7, "b 15", x -> x.lookup(0, 15));
        bad("b 16", x -> x.lookup(0, 16));
        bad("a least of all", x -> x.lookup(LEAST_INT, 0));
        bad("b greatest of all", x -> x.lookup(0, GREATEST_INT));
    }

    private static void badAheadOfOthers() {
        check.sentence("Terms 3", CHANGES_NOTHING + ": BAD, STATE, ..");
        bad("worst: what ahead of not as long", x -> x.worst(0, 2, 3));
        bad("dot: mode ahead of two formats", x -> x.dot(0, 1, 6, false));
        bad("dot: no such row ahead of two formats", x -> x.dot(0, 3, 0, false));
        bad("table: what ahead of more bits", x -> x.table(Scene.LARGE, 7, 0));
        bad("table: mode ahead of more bits", x -> x.table(Scene.LARGE, 0, 6));
        check.sentence("Terms 3", CHANGES_NOTHING + ": BAD, .., INVALID");
        bad("cross: mode ahead of INVALID", x -> x.cross(0, 29, Scene.PLAIN, 6));
        bad("act: mode ahead of INVALID", x -> x.act(Scene.PLAIN, 3, 0, 0, -1));
        bad("act: b ahead of a that is below 0 by ZERO", x -> x.act(Scene.PLAIN, 3, 0, 16, 0));
        bad("fused: c ahead of INVALID", x -> x.fused(Scene.UNSIGNED, 7, 0, 8, 0));
        bad("fused: mode ahead of INVALID", x -> x.fused(Scene.UNSIGNED, 7, 0, 0, 6));
        bad("quantise: mode ahead of INVALID", x -> x.quantise(1, 0, Scene.PLAIN, 6));
        bad("quantise: the same row ahead of INVALID", x -> x.quantise(0, 0, Scene.PLAIN, 0));
        refused(endlessOfBothSigns(), BAD, BAD, "sum: mode ahead of INVALID", x -> x.sum(3, 6, false));
        refused(endlessOfBothSigns(), BAD, BAD, "dot: mode ahead of INVALID", x -> x.dot(3, 3, -1, true));
    }

    private static void stateAheadOfOthers() {
        check.sentence("Terms 3", CHANGES_NOTHING + ": .. STATE, FULL, INVALID");
        SmallFloats x = endlessOfBothSigns();
        Scene.fill(x, 2, Scene.UNSIGNED, 0, 0, 0);
        refused(x, STATE, STATE, "dot: two formats ahead of ENDLESS times ZERO", y -> y.dot(3, 2, 0, false));
        refused(x, STATE, STATE, "dot: the same, stepwise", y -> y.dot(3, 2, 0, true));
    }
}
