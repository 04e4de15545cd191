/**
 * All promises at once: SmallFloats answers as Oracle does, for every pair of codes of the smallest
 * formats and in long runs of calls on formats of every size. The runs are the same ones each time.
 */
public final class OracleTest {
    private static final Check check = new Check("OracleTest");
    private static final int CALLS = 512, MOST_CALLS_OF_A_STEP = 40, RUNS = 2000;
    private static long seed = 1;
    private static SmallFloats x;
    private static Oracle due;
    private static int calls;

    public static void main(String[] args) {
        for (int s = 0; s <= 1; s++) {
            for (int e = 1; e <= 4; e++) {
                for (int f = 0; s + e + f <= 4; f++) {
                    everyAct(s, e, f);
                }
            }
        }
        for (int run = 0; run < RUNS; run++) {
            run(run);
        }
        check.end();
    }

    private static int below(int n) {
        seed = seed * 6364136223846793005L + 1442695040888963407L;
        return (int) ((seed >>> 33) % n);
    }

    private static void everyAct(int s, int e, int f) {
        if (s + e + f < 3) {
            return;
        }
        for (int way = 0; way < 12; way++) {
            for (int mode = 0; mode < 6; mode++) {
                for (int what = 0; what < 7; what++) {
                    x = new SmallFloats();
                    due = new Oracle();
                    int bias = way < 6 ? 0 : 2;
                    x.format(s, e, f, bias, way % 2 == 0, way / 2 % 3);
                    due.format(s, e, f, bias, way % 2 == 0, way / 2 % 3);
                    everyPair(1 << (s + e + f), what, mode);
                }
            }
        }
    }

    private static void everyPair(int codes, int what, int mode) {
        for (int place = 0; place < codes * codes; place++) {
            int a = place / codes;
            int b = place % codes;
            String call = due.forms.get(0) + ": act(0, " + what + ", " + a + ", " + b + ", " + mode + ")";
            check.due(call, due.act(0, what, a, b, mode), x.act(0, what, a, b, mode));
        }
        sameCounts("act " + what + " by mode " + mode + ", ");
    }

    private static void sameCounts(String at) {
        for (int what = 0; what < 4; what++) {
            same(at + "count(" + what + ")", due.count(what), x.count(what));
        }
    }

    /** A call of each: what Oracle answers, what SmallFloats answers. */
    private static void same(String call, long want, long got) {
        calls++;
        check.due(call, want, got);
    }

    /** An object's answers behind its 512th call are free, so that a run ends before. */
    private static void run(int run) {
        x = new SmallFloats();
        due = new Oracle();
        calls = 0;
        for (int step = 0; calls < CALLS - MOST_CALLS_OF_A_STEP; step++) {
            String at = "run " + run + ", step " + step + ", ";
            step(at, step < 4 ? 0 : step < 6 ? 19 : step < 9 ? 21 : below(40));
            same(at + "told()", due.told(), x.told());
            if (step % 4 == 0) {
                sameCounts(at);
            }
        }
        sameCounts("run " + run + ", at last, ");
    }

    private static int someFormat() {
        return below(40) == 0 ? below(13) - 1 : below(Math.max(1, due.forms.size()));
    }

    /** Mostly a code of the format; often one of those near ZERO, GREAT and ENDLESS. */
    private static int someCode(int format) {
        int codes = 1 << bitsOf(format);
        int great = due.forms.isEmpty() ? 0 : due.forms.get(within(format)).great();
        switch (below(12)) {
            case 0: return below(codes + 4) - 2;
            case 1: return great + below(4) - 1;
            case 2: return (great + below(4) - 1 + codes / 2) % codes;
            case 3: return below(2) * codes / 2 + below(3);
            default: return below(codes);
        }
    }

    private static int within(int format) {
        return Math.max(0, Math.min(format, due.forms.size() - 1));
    }

    private static int bitsOf(int format) {
        return due.forms.isEmpty() ? 3 : due.forms.get(within(format)).bits();
    }

    private static int someMode() {
        return below(60) == 0 ? below(9) - 1 : below(6);
    }

    private static long someUnits() {
        switch (below(8)) {
            case 0: return Long.MIN_VALUE + below(3);
            case 1: return Long.MAX_VALUE - below(3);
            case 2: return below(1 << 22) - (1 << 21);
            default: return below(200) - 100;
        }
    }

    private static void step(String at, int which) {
        switch (which) {
            case 0: case 1: makeFormat(at); break;
            case 2: case 3: case 4: case 5: ask(at); break;
            case 6: case 7: case 8: fraction(at); break;
            case 9: case 10: case 11: cross(at); break;
            case 12: case 13: case 14: case 15: act(at); break;
            case 16: case 17: case 18: fused(at); break;
            case 19: case 20: row(at); break;
            case 21: case 22: case 23: case 24: fill(at); break;
            case 25: case 26: read(at); break;
            case 27: case 28: quantise(at); break;
            case 29: case 30: worst(at); break;
            case 31: case 32: case 33: sum(at); break;
            case 34: case 35: case 36: dot(at); break;
            case 37: table(at); break;
            default: lookup(at); break;
        }
    }

    private static void makeFormat(String at) {
        boolean odd = below(20) == 0;
        int s = odd ? below(4) - 1 : below(2);
        int e = odd ? below(7) - 1 : 1 + below(4);
        int f = odd ? below(8) - 1 : below(6);
        int bias = odd ? below(18) - 1 : below(16);
        boolean subnormals = below(2) == 0;
        int top = odd ? below(5) - 1 : below(3);
        String call = "format(" + s + ", " + e + ", " + f + ", " + bias + ", " + subnormals + ", " + top + ")";
        same(at + call, due.format(s, e, f, bias, subnormals, top), x.format(s, e, f, bias, subnormals, top));
    }

    private static void ask(String at) {
        int format = someFormat();
        int a = someCode(format);
        int b = below(3) == 0 ? a : someCode(format);
        int what = below(9) - 1;
        boolean up = below(2) == 0;
        long low = someUnits();
        long high = below(2) == 0 ? someUnits() : low + below(50);
        String codes = format + ", " + a + ", " + b + ")";
        switch (below(6)) {
            case 0: same(at + "about " + what, due.about(format, what), x.about(format, what)); break;
            case 1: same(at + "kind " + codes, due.kind(format, a, what % 3), x.kind(format, a, what % 3)); break;
            case 2: same(at + "units " + codes, due.units(format, a), x.units(format, a)); break;
            case 3: same(at + "next " + codes, due.next(format, a, up), x.next(format, a, up)); break;
            case 4: same(at + "order " + codes, due.order(format, a, b), x.order(format, a, b)); break;
            default: same(at + "numbers " + low + ", " + high, due.numbers(format, low, high), x.numbers(format, low, high));
        }
    }

    private static void fraction(String at) {
        int format = someFormat();
        long p = below(1 << 21) - (1 << 20) >> below(20);
        long q = below(2) == 0 ? 1L << below(21) : 1 + below(1 << 20) >> below(20);
        if (below(6) == 0) {
            p <<= 20;
        }
        if (below(40) == 0) {
            p = below(2) == 0 ? Long.MIN_VALUE : (1L << 40) + below(3) - 1;
        }
        int mode = someMode();
        String call = "code(" + format + ", " + p + ", " + q + ", " + mode + ")";
        same(at + call, due.code(format, p, q, mode), x.code(format, p, q, mode));
    }

    private static void cross(String at) {
        int format = someFormat();
        int to = someFormat();
        int code = someCode(format);
        int mode = someMode();
        String call = "cross(" + format + ", " + code + ", " + to + ", " + mode + ")";
        same(at + call, due.cross(format, code, to, mode), x.cross(format, code, to, mode));
    }

    private static void act(String at) {
        int format = someFormat();
        int what = below(30) == 0 ? below(10) - 1 : below(7);
        int a = someCode(format);
        int b = below(8) == 0 ? a : someCode(format);
        int mode = someMode();
        String call = "act(" + format + ", " + what + ", " + a + ", " + b + ", " + mode + ")";
        same(at + call, due.act(format, what, a, b, mode), x.act(format, what, a, b, mode));
    }

    private static void fused(String at) {
        int format = someFormat();
        int a = someCode(format);
        int b = someCode(format);
        int c = someCode(format);
        int mode = someMode();
        String call = "fused(" + format + ", " + a + ", " + b + ", " + c + ", " + mode + ")";
        same(at + call, due.fused(format, a, b, c, mode), x.fused(format, a, b, c, mode));
    }

    private static int someRow() {
        return below(40) == 0 ? below(7) - 1 : below(3);
    }

    private static void row(String at) {
        int row = someRow();
        int format = below(2) == 0 ? 0 : someFormat();
        int n = below(20) == 0 ? below(20) - 1 : below(3) == 0 ? 16 : below(6);
        String call = "row(" + row + ", " + format + ", " + n + ")";
        same(at + call, due.row(row, format, n), x.row(row, format, n));
    }

    private static void fill(String at) {
        int row = someRow();
        for (int i = 0; i < 4; i++) {
            int place = below(17) - (below(20) == 0 ? 1 : 0);
            int code = someCode(someFormat());
            String call = "put(" + row + ", " + place + ", " + code + ")";
            same(at + call, due.put(row, place, code), x.put(row, place, code));
        }
    }

    private static void read(String at) {
        int row = someRow();
        boolean bytes = below(2) == 0;
        for (int i = -2; i < 22; i++) {
            if (bytes) {
                same(at + "packed(" + row + ", " + i + ")", due.packed(row, i), x.packed(row, i));
            } else {
                same(at + "at(" + row + ", " + i + ")", due.at(row, i), x.at(row, i));
            }
        }
    }

    private static void quantise(String at) {
        int row = someRow();
        int from = someRow();
        int format = below(3) == 0 ? 0 : someFormat();
        int mode = someMode();
        String call = "quantise(" + row + ", " + from + ", " + format + ", " + mode + ")";
        same(at + call, due.quantise(row, from, format, mode), x.quantise(row, from, format, mode));
    }

    private static void worst(String at) {
        int row = someRow();
        int other = someRow();
        int what = below(20) == 0 ? below(5) - 1 : below(3);
        String call = "worst(" + row + ", " + other + ", " + what + ")";
        same(at + call, due.worst(row, other, what), x.worst(row, other, what));
    }

    private static void sum(String at) {
        int row = someRow();
        int mode = someMode();
        boolean stepwise = below(2) == 0;
        String call = "sum(" + row + ", " + mode + ", " + stepwise + ")";
        same(at + call, due.sum(row, mode, stepwise), x.sum(row, mode, stepwise));
    }

    private static void dot(String at) {
        int row = someRow();
        int other = someRow();
        int mode = someMode();
        boolean stepwise = below(2) == 0;
        String call = "dot(" + row + ", " + other + ", " + mode + ", " + stepwise + ")";
        same(at + call, due.dot(row, other, mode, stepwise), x.dot(row, other, mode, stepwise));
    }

    private static void table(String at) {
        int format = someFormat();
        // The Oracle fills its tables place by place, so that few are made of the largest formats.
        if (bitsOf(format) == 6 && below(8) != 0) {
            return;
        }
        int what = below(20) == 0 ? below(10) - 1 : below(7);
        int mode = someMode();
        String call = "table(" + format + ", " + what + ", " + mode + ")";
        same(at + call, due.table(format, what, mode), x.table(format, what, mode));
    }

    private static void lookup(String at) {
        for (int i = 0; i < 4; i++) {
            int a = below(6) == 0 ? below(70) - 2 : below(8);
            int b = below(6) == 0 ? below(70) - 2 : below(8);
            String call = "lookup(" + a + ", " + b + ")";
            same(at + call, due.lookup(a, b), x.lookup(a, b));
        }
    }
}
