/** A foundry of small numbers: see ../shared/DOC.md, whose promises the public methods keep. */
public final class SmallFloats {
    public static final int BAD = -1, STATE = -2, FULL = -3, INVALID = -4, NONE = -9;
    public static final long NO = Long.MIN_VALUE;

    private static final int MOST_FORMATS = 10, MOST_ROWS = 4, MOST_CODES = 16;
    private static final int MOST_TABLES = 100, MOST_TABLE_BITS = 6;
    private static final long MOST_P = 1L << 40, MOST_Q = 1L << 20;

    // Half of the 512 codes without a sign that a format can have: where a search by halves begins.
    private static final int FIRST_STEP = 256;

    private static final int TOP_ENDLESS = 0, TOP_ONE = 1, TOP_PLAIN = 2;
    private static final int EVEN = 0, AWAY = 1, IN = 2, DOWN = 3, UP = 4, ODD = 5;
    private static final int SUM = 0, DIFFERENCE = 1, PRODUCT = 2, QUOTIENT = 3, ROOT = 4, LEAST = 5, MOST = 6;

    // What a size can be that is no NUMBER's; sizes of NUMBERS are never below 0.
    private static final long ENDLESS_SIZE = -1, NONE_SIZE = -2, INVALID_SIZE = -3;

    private final Format[] formats = new Format[MOST_FORMATS];
    private int formatCount = 0;
    private final Row[] rows = new Row[MOST_ROWS];
    private final int[] scratch = new int[MOST_CODES];
    private final Arithmetic arithmetic = new Arithmetic();
    private final Tally counted = new Tally();
    private int refusal = 0;

    // A table is an act of two codes and nothing else, so what defines it is kept, not its places.
    private Format tableFormat = null;
    private int tableAct = 0;
    private int tableMode = 0;
    private int tablesMade = 0;

    public SmallFloats() {
        for (int i = 0; i < MOST_ROWS; i++) {
            rows[i] = new Row();
        }
    }

    public int format(int s, int e, int f, int bias, boolean subnormals, int top) {
        if (!within(s, 0, 1) || !within(e, 1, 4) || !within(f, 0, 5) || s + e + f < 3) {
            return refused(BAD);
        }
        if (!within(bias, 0, 15) || !within(top, TOP_ENDLESS, TOP_PLAIN)) {
            return refused(BAD);
        }
        Format wanted = new Format(s, e, f, bias, subnormals, top);
        for (int i = 0; i < formatCount; i++) {
            Format there = formatAt(i);
            if (there != null && there.isAlike(wanted)) {
                return answered(i);
            }
        }
        if (formatCount >= MOST_FORMATS) {
            return refused(FULL);
        }
        formats[formatCount] = wanted;
        formatCount++;
        return answered(formatCount - 1);
    }

    public int about(int format, int what) {
        Format f = formatAt(format);
        if (f == null || !within(what, 0, 6)) {
            return refused(BAD);
        }
        switch (what) {
            case 0: return answered(f.bits());
            case 1: return answered(f.great);
            case 2: return answered(f.great - 1);
            case 3: return answered(f.noneCode());
            case 4: return answered(f.top == TOP_ENDLESS ? f.beyond(false) : NONE);
            case 5: return answered((f.great + 1) << f.signBits);
            default: return answered(f.scale());
        }
    }

    public int kind(int format, int code, int what) {
        Format f = formatAt(format);
        if (f == null || !f.hasCode(code) || !within(what, 0, 1)) {
            return refused(BAD);
        }
        if (what == 1) {
            return answered(f.isMinus(code) ? 1 : 0);
        }
        return answered(f.kindOf(code));
    }

    public long units(int format, int code) {
        Format f = formatAt(format);
        if (f == null || !f.hasCode(code)) {
            refused(BAD);
            return NO;
        }
        answered(0);
        return f.isNumber(code) ? f.unitsOf(code) : NO;
    }

    public int code(int format, long p, long q, int mode) {
        Format f = formatAt(format);
        if (f == null || p < -MOST_P || p > MOST_P || q < 1 || q > MOST_Q || !isMode(mode)) {
            return refused(BAD);
        }
        arithmetic.met.clear();
        return settled(arithmetic.fraction(f, p, q, mode));
    }

    public int cross(int format, int code, int to, int mode) {
        Format from = formatAt(format);
        Format target = formatAt(to);
        if (from == null || target == null || !from.hasCode(code) || !isMode(mode)) {
            return refused(BAD);
        }
        arithmetic.met.clear();
        return settled(arithmetic.crossed(from, code, target, mode));
    }

    public int act(int format, int what, int a, int b, int mode) {
        Format f = formatAt(format);
        if (f == null || !within(what, SUM, MOST) || !f.hasCode(a) || !isMode(mode)) {
            return refused(BAD);
        }
        if (what != ROOT && !f.hasCode(b)) {
            return refused(BAD);
        }
        arithmetic.met.clear();
        return settled(arithmetic.acted(f, what, a, b, mode));
    }

    public int fused(int format, int a, int b, int c, int mode) {
        Format f = formatAt(format);
        if (f == null || !f.hasCode(a) || !f.hasCode(b) || !f.hasCode(c) || !isMode(mode)) {
            return refused(BAD);
        }
        arithmetic.met.clear();
        return settled(arithmetic.fusedOf(f, a, b, c, mode));
    }

    public int next(int format, int code, boolean up) {
        Format f = formatAt(format);
        if (f == null || !f.hasCode(code) || !f.isNumber(code)) {
            return refused(BAD);
        }
        return answered(f.neighbour(code, up));
    }

    public int order(int format, int a, int b) {
        Format f = formatAt(format);
        if (f == null || !f.hasCode(a) || !f.hasCode(b)) {
            return refused(BAD);
        }
        if (f.isNone(a) || f.isNone(b)) {
            return answered(2);
        }
        return answered(Integer.compare(f.rank(a), f.rank(b)));
    }

    public int numbers(int format, long low, long high) {
        Format f = formatAt(format);
        if (f == null) {
            return refused(BAD);
        }
        return answered(f.numbersBetween(low, high));
    }

    // ---- rows

    public int row(int row, int format, int n) {
        Format f = formatAt(format);
        if (!within(row, 0, MOST_ROWS - 1) || f == null || !within(n, 0, MOST_CODES)) {
            return refused(BAD);
        }
        rows[row].become(f, n);
        return answered(1);
    }

    public int put(int row, int i, int code) {
        Row r = rowAt(row);
        if (r == null || !r.hasPlace(i) || !r.format.hasCode(code)) {
            return refused(BAD);
        }
        int before = r.codeAt(i);
        r.setCode(i, code);
        return answered(before);
    }

    public int at(int row, int i) {
        Row r = rowAt(row);
        if (r == null || !r.hasPlace(i)) {
            return refused(BAD);
        }
        return answered(r.codeAt(i));
    }

    public int packed(int row, int i) {
        Row r = rowAt(row);
        if (r == null || !within(i, -1, r.byteCount() - 1)) {
            return refused(BAD);
        }
        return answered(i == -1 ? r.byteCount() : r.byteAt(i));
    }

    public int quantise(int row, int from, int format, int mode) {
        Row source = rowAt(from);
        Format to = formatAt(format);
        if (!within(row, 0, MOST_ROWS - 1) || row == from || source == null || to == null || !isMode(mode)) {
            return refused(BAD);
        }
        arithmetic.met.clear();
        // All codes come first, for a row that is refused halfway must stay as it was.
        for (int i = 0; i < source.length && i < scratch.length; i++) {
            scratch[i] = arithmetic.crossed(source.format, source.codeAt(i), to, mode);
            if (scratch[i] == INVALID) {
                return settled(INVALID);
            }
        }
        Row target = rows[row];
        target.become(to, source.length);
        for (int i = 0; i < target.length && i < scratch.length; i++) {
            target.setCode(i, scratch[i]);
        }
        return settled(1);
    }

    public int worst(int row, int other, int what) {
        Row a = rowAt(row);
        Row b = rowAt(other);
        if (a == null || b == null || !within(what, 0, 2)) {
            return refused(BAD);
        }
        if (a.length != b.length) {
            return refused(STATE);
        }
        switch (what) {
            case 0: return answered(a.worstPlace(b));
            case 1: return answered(a.differences(b));
            default: return answered(a.noNumbers(b));
        }
    }

    public int sum(int row, int mode, boolean stepwise) {
        Row r = rowAt(row);
        if (r == null || !isMode(mode)) {
            return refused(BAD);
        }
        arithmetic.met.clear();
        return settled(stepwise ? arithmetic.stepwiseTotal(r, null, mode) : arithmetic.exactTotal(r, null, mode));
    }

    public int dot(int row, int other, int mode, boolean stepwise) {
        Row a = rowAt(row);
        Row b = rowAt(other);
        if (a == null || b == null || !isMode(mode)) {
            return refused(BAD);
        }
        if (!a.format.isAlike(b.format)) {
            return refused(STATE);
        }
        arithmetic.met.clear();
        return settled(stepwise ? arithmetic.stepwiseTotal(a, b, mode) : arithmetic.exactTotal(a, b, mode));
    }

    // ---- tables

    public int table(int format, int what, int mode) {
        Format f = formatAt(format);
        if (f == null || !within(what, SUM, MOST) || !isMode(mode)) {
            return refused(BAD);
        }
        if (f.bits() > MOST_TABLE_BITS) {
            return refused(STATE);
        }
        if (tablesMade >= MOST_TABLES) {
            return refused(FULL);
        }
        tablesMade++;
        tableFormat = f;
        tableAct = what;
        tableMode = mode;
        return answered(1 << (2 * f.bits()));
    }

    public int lookup(int a, int b) {
        if (tableFormat == null) {
            return refused(STATE);
        }
        if (!tableFormat.hasCode(a) || !tableFormat.hasCode(b)) {
            return refused(BAD);
        }
        int result = arithmetic.acted(tableFormat, tableAct, a, b, tableMode);
        return answered(result == INVALID ? -1 : result);
    }

    // ---- what is told

    public int count(int what) {
        switch (what) {
            case 0: return counted.inexact;
            case 1: return counted.over;
            case 2: return counted.invalid;
            case 3: return formatCount;
            default: return BAD;
        }
    }

    public int told() {
        return refusal;
    }

    private int answered(int answer) {
        refusal = 0;
        return answer;
    }

    private int refused(int reason) {
        refusal = reason;
        return reason;
    }

    /** Ends a call that rounded: what it met is counted, of a refused one the INVALID alone. */
    private int settled(int result) {
        if (result == INVALID) {
            counted.invalid++;
            return refused(INVALID);
        }
        counted.add(arithmetic.met);
        return answered(result);
    }

    private Format formatAt(int format) {
        return within(format, 0, MOST_FORMATS - 1) ? formats[format] : null;
    }

    private Row rowAt(int row) {
        return within(row, 0, MOST_ROWS - 1) && rows[row].format != null ? rows[row] : null;
    }

    private static boolean isMode(int mode) {
        return within(mode, EVEN, ODD);
    }

    private static boolean within(int x, int low, int high) {
        return low <= x && x <= high;
    }

    /** What roundings and acts meet. */
    private static final class Tally {
        int inexact = 0;
        int over = 0;
        int invalid = 0;

        void clear() {
            inexact = 0;
            over = 0;
            invalid = 0;
        }

        void add(Tally other) {
            inexact += other.inexact;
            over += other.over;
            invalid += other.invalid;
        }
    }

    /**
     * What the codes of a format mean. A code without its sign bit is its magnitude: magnitudes rise
     * with what they stand for, NUMBERS from 0 to great, behind them ENDLESS (if there is one), then NONE.
     */
    private static final class Format {
        final int signBits;
        final int exponentBits;
        final int fractionBits;
        final int bias;
        final boolean subnormals;
        final int top;
        final int great;

        Format(int s, int e, int f, int bias, boolean subnormals, int top) {
            signBits = s;
            exponentBits = e;
            fractionBits = f;
            this.bias = bias;
            this.subnormals = subnormals;
            this.top = top;
            int magnitudes = 1 << (e + f);
            if (top == TOP_ENDLESS) {
                great = magnitudes - (1 << f) - 1;
            } else {
                great = top == TOP_ONE ? magnitudes - 2 : magnitudes - 1;
            }
        }

        boolean isAlike(Format other) {
            return signBits == other.signBits && exponentBits == other.exponentBits
                && fractionBits == other.fractionBits && bias == other.bias
                && subnormals == other.subnormals && top == other.top;
        }

        int bits() {
            return signBits + exponentBits + fractionBits;
        }

        /** The unit is 2 to the power of minus this. */
        int scale() {
            return bias + fractionBits;
        }

        /** Twice the middle between a magnitude and the next; GREAT's next is as far from it as LAST. */
        long twiceMiddleAbove(int magnitude) {
            long units = unitsOfMagnitude(magnitude);
            if (magnitude == great) {
                return 3 * units - unitsOfMagnitude(great - 1);
            }
            return units + unitsOfMagnitude(magnitude + 1);
        }

        /** The code of the NONE, or NONE. */
        int noneCode() {
            if (top == TOP_ONE) {
                return great + 1;
            }
            boolean there = top == TOP_ENDLESS && fractionBits > 0;
            return there ? (great + 1) | (1 << (fractionBits - 1)) : NONE;
        }

        /** What is greater than every NUMBER; of TOP 0 it is the ENDLESS of that sign. */
        int beyond(boolean minus) {
            if (minus && signBits == 0) {
                return 0;
            }
            if (top == TOP_ONE) {
                return noneCode();
            }
            return withSign(minus, top == TOP_ENDLESS ? great + 1 : great);
        }

        boolean hasCode(int code) {
            return code >= 0 && code < 1 << bits();
        }

        int magnitude(int code) {
            return code & ((1 << (exponentBits + fractionBits)) - 1);
        }

        boolean isMinus(int code) {
            return signBits == 1 && (code >> (exponentBits + fractionBits)) != 0;
        }

        /** The code of a magnitude; without a sign bit there is no minus. */
        int withSign(boolean minus, int magnitude) {
            return minus && signBits == 1 ? magnitude | (1 << (exponentBits + fractionBits)) : magnitude;
        }

        boolean isNumber(int code) {
            return magnitude(code) <= great;
        }

        boolean isEndless(int code) {
            return top == TOP_ENDLESS && magnitude(code) == great + 1;
        }

        boolean isNone(int code) {
            return !isNumber(code) && !isEndless(code);
        }

        int kindOf(int code) {
            int magnitude = magnitude(code);
            if (isNone(code)) {
                return 4;
            }
            if (isEndless(code)) {
                return 3;
            }
            if (magnitude == 0) {
                return 0;
            }
            return subnormals && magnitude >> fractionBits == 0 ? 1 : 2;
        }

        /** The units of the NUMBER that has this magnitude. */
        long unitsOfMagnitude(int magnitude) {
            int exponent = magnitude >> fractionBits;
            long fraction = magnitude & ((1 << fractionBits) - 1);
            if (magnitude == 0) {
                return 0;
            }
            if (exponent == 0 && subnormals) {
                return 2 * fraction;
            }
            return ((1L << fractionBits) + fraction) << exponent;
        }

        /** The units of a NUMBER. */
        long unitsOf(int code) {
            long size = unitsOfMagnitude(magnitude(code));
            return isMinus(code) ? -size : size;
        }

        /** The units of a code without its sign, ENDLESS_SIZE or NONE_SIZE. */
        long sizeOf(int code) {
            int magnitude = magnitude(code);
            if (magnitude <= great) {
                return unitsOfMagnitude(magnitude);
            }
            return top == TOP_ENDLESS && magnitude == great + 1 ? ENDLESS_SIZE : NONE_SIZE;
        }

        /** As a size, but of a times b, in units by units. */
        long sizeOfProduct(int a, int b) {
            long sizeA = sizeOf(a);
            long sizeB = sizeOf(b);
            if (sizeA == NONE_SIZE || sizeB == NONE_SIZE) {
                return NONE_SIZE;
            }
            if (sizeA == ENDLESS_SIZE || sizeB == ENDLESS_SIZE) {
                return sizeA == 0 || sizeB == 0 ? INVALID_SIZE : ENDLESS_SIZE;
            }
            return sizeA * sizeB;
        }

        /** Ranks stand as what the codes are, both ZEROS alike; a NONE has no rank. */
        int rank(int code) {
            return isMinus(code) ? -magnitude(code) : magnitude(code);
        }

        int lesser(int a, int b) {
            if (rank(a) == rank(b)) {
                return isMinus(b) ? b : a;
            }
            return rank(a) < rank(b) ? a : b;
        }

        int greater(int a, int b) {
            if (rank(a) == rank(b)) {
                return isMinus(a) ? b : a;
            }
            return rank(a) > rank(b) ? a : b;
        }

        int neighbour(int code, boolean up) {
            int rank = rank(code) + (up ? 1 : -1);
            int lowest = signBits == 1 ? -great : 0;
            if (rank < lowest || rank > great) {
                return NONE;
            }
            boolean minus = rank < 0 || (rank == 0 && up);
            return withSign(minus, Math.abs(rank));
        }

        int numbersBetween(long low, long high) {
            // Far beyond every NUMBER, so that turning a sign and taking one away stay exact.
            long limit = 1L << 40;
            long from = Math.max(-limit, Math.min(limit, low));
            long to = Math.max(-limit, Math.min(limit, high));
            if (from > to) {
                return 0;
            }
            int plus = magnitudesUpTo(to) - magnitudesUpTo(from - 1);
            int minus = magnitudesUpTo(-from) - magnitudesUpTo(-to - 1);
            return signBits == 1 ? plus + minus : plus;
        }

        private int magnitudesUpTo(long limit) {
            if (limit < 0) {
                return 0;
            }
            int count = 1;
            for (int step = FIRST_STEP; step > 0; step >>= 1) {
                if (count + step <= great + 1 && unitsOfMagnitude(count + step - 1) <= limit) {
                    count += step;
                }
            }
            return count;
        }
    }

    /** A row is there when it has a format. */
    private static final class Row {
        Format format = null;
        int length = 0;
        private final int[] codes = new int[MOST_CODES];

        void become(Format f, int n) {
            format = f;
            length = Math.max(0, Math.min(n, codes.length));
            for (int i = 0; i < codes.length; i++) {
                codes[i] = 0;
            }
        }

        boolean hasPlace(int i) {
            return i >= 0 && i < length;
        }

        int codeAt(int i) {
            return i >= 0 && i < codes.length ? codes[i] : 0;
        }

        void setCode(int i, int code) {
            if (i >= 0 && i < codes.length) {
                codes[i] = code;
            }
        }

        int byteCount() {
            return (length * format.bits() + 7) >> 3;
        }

        int byteAt(int place) {
            int result = 0;
            for (int i = 0; i < length; i++) {
                int shift = i * format.bits() - 8 * place;
                if (shift >= 0 && shift < 8) {
                    result |= codeAt(i) << shift;
                } else if (shift < 0 && shift > -format.bits()) {
                    result |= codeAt(i) >> -shift;
                }
            }
            return result & 255;
        }

        boolean areNumbers(Row other, int i) {
            return format.isNumber(codeAt(i)) && other.format.isNumber(other.codeAt(i));
        }

        /** How far two NUMBERS are from one another, in the finer one's units. */
        long distance(Row other, int i) {
            int scale = Math.max(format.scale(), other.format.scale());
            long mine = format.unitsOf(codeAt(i)) << (scale - format.scale());
            long its = other.format.unitsOf(other.codeAt(i)) << (scale - other.format.scale());
            return Math.abs(mine - its);
        }

        int worstPlace(Row other) {
            int place = NONE;
            long most = 0;
            for (int i = 0; i < length; i++) {
                if (areNumbers(other, i) && distance(other, i) > most) {
                    most = distance(other, i);
                    place = i;
                }
            }
            return place;
        }

        int differences(Row other) {
            int found = 0;
            for (int i = 0; i < length; i++) {
                if (areNumbers(other, i) && distance(other, i) > 0) {
                    found++;
                }
            }
            return found;
        }

        int noNumbers(Row other) {
            int found = 0;
            for (int i = 0; i < length; i++) {
                if (!areNumbers(other, i)) {
                    found++;
                }
            }
            return found;
        }
    }

    /** Roundings and acts: each answers a code, or INVALID where it is refused; met tells what it met. */
    private static final class Arithmetic {
        final Tally met = new Tally();

        private int invalid(Format f) {
            met.invalid++;
            int none = f.noneCode();
            return none == NONE ? INVALID : none;
        }

        /** Rounds num / den units, above 0, with a sign; no product here comes to 2^62. */
        private int rounded(Format f, boolean minus, long num, long den, int mode) {
            if (minus && f.signBits == 0) {
                met.inexact++;
                return 0;
            }
            int low = greatestUpTo(f, num, den);
            if (f.unitsOfMagnitude(low) * den == num) {
                return f.withSign(minus, low);
            }
            met.inexact++;
            boolean over = low == f.great;
            if (over) {
                met.over++;
            }
            int half = Long.compare(2 * num, f.twiceMiddleAbove(low) * den);
            // Above GREAT a tie of EVEN goes out, whatever GREAT's code is.
            boolean tieGoesOut = over || (low & 1) == 1;
            if (!goesOut(low, minus, half, tieGoesOut, mode)) {
                return f.withSign(minus, low);
            }
            return over ? f.beyond(minus) : f.withSign(minus, low + 1);
        }

        /** The greatest magnitude whose NUMBER is not above num / den units. */
        private static int greatestUpTo(Format f, long num, long den) {
            int low = 0;
            for (int step = FIRST_STEP; step > 0; step >>= 1) {
                if (low + step <= f.great && f.unitsOfMagnitude(low + step) * den <= num) {
                    low += step;
                }
            }
            return low;
        }

        /** Whether a size above low's is rounded away from ZERO; half compares it with the middle. */
        private static boolean goesOut(int low, boolean minus, int half, boolean tieGoesOut, int mode) {
            switch (mode) {
                case EVEN: return half > 0 || (half == 0 && tieGoesOut);
                case AWAY: return half >= 0;
                case DOWN: return minus;
                case UP: return !minus;
                case ODD: return (low & 1) == 0;
                default: return false;
            }
        }

        int fraction(Format f, long p, long q, int mode) {
            if (p == 0) {
                return 0;
            }
            return rounded(f, p < 0, Math.abs(p) << f.scale(), q, mode);
        }

        int crossed(Format from, int code, Format to, int mode) {
            long size = from.sizeOf(code);
            boolean minus = from.isMinus(code);
            if (size == NONE_SIZE) {
                return to.noneCode() == NONE ? invalid(to) : to.noneCode();
            }
            if (size == ENDLESS_SIZE) {
                return to.beyond(minus);
            }
            if (size == 0) {
                return to.withSign(minus, 0);
            }
            int finer = Math.max(0, to.scale() - from.scale());
            int coarser = Math.max(0, from.scale() - to.scale());
            return rounded(to, minus, size << finer, 1L << coarser, mode);
        }

        int acted(Format f, int what, int a, int b, int mode) {
            if (f.isNone(a) || (what != ROOT && f.isNone(b))) {
                return f.noneCode();
            }
            switch (what) {
                case SUM: return added(f, a, b, f.isMinus(b), mode);
                case DIFFERENCE: return added(f, a, b, !f.isMinus(b), mode);
                case PRODUCT: return multiplied(f, a, b, mode);
                case QUOTIENT: return divided(f, a, b, mode);
                case ROOT: return rootOf(f, a, mode);
                case LEAST: return f.lesser(a, b);
                default: return f.greater(a, b);
            }
        }

        private int added(Format f, int a, int b, boolean minusB, int mode) {
            boolean minusA = f.isMinus(a);
            long sizeA = f.sizeOf(a);
            long sizeB = f.sizeOf(b);
            int endless = endlessOfSum(f, minusA, sizeA, minusB, sizeB);
            if (endless != NONE) {
                return endless;
            }
            long x = signed(minusA, sizeA) + signed(minusB, sizeB);
            if (x == 0) {
                return f.withSign(sizeA == 0 && minusA == minusB ? minusA : mode == DOWN, 0);
            }
            return rounded(f, x < 0, Math.abs(x), 1, mode);
        }

        int fusedOf(Format f, int a, int b, int c, int mode) {
            boolean minusProduct = f.isMinus(a) != f.isMinus(b);
            boolean minusC = f.isMinus(c);
            long product = f.sizeOfProduct(a, b);
            long sizeC = f.sizeOf(c);
            if (product == INVALID_SIZE) {
                return invalid(f);
            }
            if (product == NONE_SIZE || sizeC == NONE_SIZE) {
                return f.noneCode();
            }
            int endless = endlessOfSum(f, minusProduct, product, minusC, sizeC);
            if (endless != NONE) {
                return endless;
            }
            long x = signed(minusProduct, product) + (signed(minusC, sizeC) << f.scale());
            if (x == 0) {
                return f.withSign(product == 0 && minusProduct == minusC ? minusC : mode == DOWN, 0);
            }
            return rounded(f, x < 0, Math.abs(x), 1L << f.scale(), mode);
        }

        /** What a sum is in which something is ENDLESS; NONE where nothing is. */
        private int endlessOfSum(Format f, boolean minusA, long sizeA, boolean minusB, long sizeB) {
            boolean endlessA = sizeA == ENDLESS_SIZE;
            boolean endlessB = sizeB == ENDLESS_SIZE;
            if (endlessA && endlessB && minusA != minusB) {
                return invalid(f);
            }
            if (endlessA || endlessB) {
                return f.beyond(endlessA ? minusA : minusB);
            }
            return NONE;
        }

        private int multiplied(Format f, int a, int b, int mode) {
            boolean minus = f.isMinus(a) != f.isMinus(b);
            long size = f.sizeOfProduct(a, b);
            if (size == INVALID_SIZE) {
                return invalid(f);
            }
            if (size == ENDLESS_SIZE) {
                return f.beyond(minus);
            }
            return size == 0 ? f.withSign(minus, 0) : rounded(f, minus, size, 1L << f.scale(), mode);
        }

        private int divided(Format f, int a, int b, int mode) {
            boolean minus = f.isMinus(a) != f.isMinus(b);
            long sizeA = f.sizeOf(a);
            long sizeB = f.sizeOf(b);
            if (sizeA == sizeB && (sizeA == 0 || sizeA == ENDLESS_SIZE)) {
                return invalid(f);
            }
            if (sizeA == ENDLESS_SIZE || sizeB == 0) {
                return f.beyond(minus);
            }
            if (sizeA == 0 || sizeB == ENDLESS_SIZE) {
                return f.withSign(minus, 0);
            }
            return rounded(f, minus, sizeA << f.scale(), sizeB, mode);
        }

        private int rootOf(Format f, int a, int mode) {
            long size = f.sizeOf(a);
            if (size == 0) {
                return a;
            }
            if (f.isMinus(a)) {
                return invalid(f);
            }
            if (size == ENDLESS_SIZE) {
                return a;
            }
            // Rounding compares the root with whole and half units alone: one that lies between two
            // of these may be taken for the quarter between them.
            long square = 4 * (size << f.scale());
            long twice = wholeRoot(square);
            long rest = twice * twice == square ? 0 : 1;
            return rounded(f, false, 2 * twice + rest, 4, mode);
        }

        /** The greatest number whose square is not above this one, which is below 2^44. */
        private static long wholeRoot(long square) {
            long root = 0;
            for (long step = 1L << 21; step > 0; step >>= 1) {
                if ((root + step) * (root + step) <= square) {
                    root += step;
                }
            }
            return root;
        }

        /** The sum of a row or, with another one, the dot of both, rounded once. */
        int exactTotal(Row row, Row other, int mode) {
            Format f = row.format;
            int n = termCount(row, other);
            int endless = 0;
            long total = 0;
            for (int i = 0; i < n; i++) {
                int a = row.codeAt(i);
                long size = other == null ? f.sizeOf(a) : f.sizeOfProduct(a, other.codeAt(i));
                boolean turned = other != null && f.isMinus(other.codeAt(i));
                int sign = f.isMinus(a) != turned ? -1 : 1;
                if (size == NONE_SIZE) {
                    return f.noneCode();
                }
                if (size == INVALID_SIZE || (size == ENDLESS_SIZE && endless == -sign)) {
                    return invalid(f);
                }
                if (size == ENDLESS_SIZE) {
                    endless = sign;
                } else {
                    total += sign * size;
                }
            }
            if (endless != 0) {
                return f.beyond(endless < 0);
            }
            if (total == 0) {
                return f.withSign(n > 0 && mode == DOWN, 0);
            }
            long den = other == null ? 1 : 1L << f.scale();
            return rounded(f, total < 0, Math.abs(total), den, mode);
        }

        /** As exactTotal, but each step is rounded. */
        int stepwiseTotal(Row row, Row other, int mode) {
            Format f = row.format;
            int n = termCount(row, other);
            int total = 0;
            for (int i = 0; i < n; i++) {
                int term = row.codeAt(i);
                if (other != null) {
                    term = acted(f, PRODUCT, term, other.codeAt(i), mode);
                }
                if (term == INVALID) {
                    return INVALID;
                }
                total = acted(f, SUM, total, term, mode);
                if (total == INVALID) {
                    return INVALID;
                }
            }
            return total;
        }

        private static int termCount(Row row, Row other) {
            return other == null ? row.length : Math.min(row.length, other.length);
        }

        private static long signed(boolean minus, long size) {
            return minus ? -size : size;
        }
    }
}
