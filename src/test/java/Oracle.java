import java.math.BigInteger;
import java.util.ArrayList;
import java.util.List;

/**
 * The document once more, with fractions of any size and lists of all codes, as slow and as near to
 * its words as can be: what SmallFloats answers is compared with it.
 */
final class Oracle {
    private static final int BAD = -1, STATE = -2, FULL = -3, INVALID = -4, NONE = -9;

    /** n / d, d above 0. */
    record Ratio(BigInteger n, BigInteger d) implements Comparable<Ratio> {
        static final Ratio ZERO = of(0, 1);

        static Ratio of(long n, long d) {
            return new Ratio(BigInteger.valueOf(n), BigInteger.valueOf(d));
        }

        Ratio plus(Ratio o) {
            return new Ratio(n.multiply(o.d).add(o.n.multiply(d)), d.multiply(o.d));
        }

        Ratio times(Ratio o) {
            return new Ratio(n.multiply(o.n), d.multiply(o.d));
        }

        Ratio by(Ratio o) {
            Ratio turned = new Ratio(o.d, o.n.abs());
            return o.n.signum() < 0 ? times(turned).negative() : times(turned);
        }

        Ratio negative() {
            return new Ratio(n.negate(), d);
        }

        Ratio size() {
            return new Ratio(n.abs(), d);
        }

        int sign() {
            return n.signum();
        }

        public int compareTo(Ratio o) {
            return n.multiply(o.d).compareTo(o.n.multiply(d));
        }
    }

    /** What a code is: one of "none", "endless", "number"; value is of a number alone. */
    record Meaning(String is, boolean minus, Ratio value) {
        boolean none() {
            return is.equals("none");
        }

        boolean endless() {
            return is.equals("endless");
        }

        boolean number() {
            return is.equals("number");
        }

        boolean zero() {
            return number() && value.sign() == 0;
        }

        Meaning turned() {
            return new Meaning(is, !minus, value == null ? null : value.negative());
        }
    }

    record Form(int s, int e, int f, int bias, boolean subnormals, int top) {
        int bits() {
            return s + e + f;
        }

        boolean has(int code) {
            return code >= 0 && code < 1 << bits();
        }

        boolean minus(int code) {
            return s == 1 && code >= 1 << (e + f);
        }

        int exponent(int code) {
            return (code >> f) % (1 << e);
        }

        int fraction(int code) {
            return code % (1 << f);
        }

        /** Units without the sign; null of what is no number. */
        Long units(int code) {
            int big = exponent(code);
            int small = fraction(code);
            boolean allE = big == (1 << e) - 1;
            boolean allF = small == (1 << f) - 1;
            if (top == 0 && allE || top == 1 && allE && allF) {
                return null;
            }
            if (big == 0 && small == 0) {
                return 0L;
            }
            if (big == 0 && subnormals) {
                return 2L * small;
            }
            return (long) ((1 << f) + small) * (1 << big);
        }

        Meaning meaning(int code) {
            Long units = units(code);
            if (units != null) {
                Ratio size = Ratio.of(units, 1L << (bias + f));
                return new Meaning("number", minus(code), minus(code) ? size.negative() : size);
            }
            boolean endless = top == 0 && fraction(code) == 0;
            return new Meaning(endless ? "endless" : "none", minus(code), null);
        }

        /** The codes of NUMBERS without the sign bit, rising. */
        List<Integer> numbers() {
            List<Integer> all = new ArrayList<>();
            for (int code = 0; code < 1 << (e + f); code++) {
                if (units(code) != null) {
                    all.add(code);
                }
            }
            all.sort((a, b) -> Long.compare(units(a), units(b)));
            return all;
        }

        int great() {
            return numbers().get(numbers().size() - 1);
        }

        int last() {
            return numbers().size() > 1 ? numbers().get(numbers().size() - 2) : 0;
        }

        int none() {
            if (top == 0 && f > 0) {
                return ((1 << e) - 1 << f) + (1 << (f - 1));
            }
            return top == 1 ? (1 << (e + f)) - 1 : NONE;
        }

        int signed(boolean minus, int code) {
            return minus && s == 1 ? code + (1 << (e + f)) : code;
        }

        /** ENDLESS or BEYOND of a sign; ZERO where there is no such sign. */
        int beyond(boolean minus) {
            if (minus && s == 0) {
                return 0;
            }
            return top == 0 ? signed(minus, (1 << e) - 1 << f) : top == 1 ? none() : signed(minus, great());
        }
    }

    final List<Form> forms = new ArrayList<>();
    private final int[][] rows = new int[4][];
    private final Form[] rowForms = new Form[4];
    private final int[] counts = new int[3];
    private int inexact;
    private int over;
    private int invalid;
    private int told;
    private int[][] table;
    private int tables;

    private int refuse(int reason) {
        told = reason;
        return reason;
    }

    private Form form(int i) {
        return i >= 0 && i < forms.size() ? forms.get(i) : null;
    }

    private static boolean in(long x, long low, long high) {
        return x >= low && x <= high;
    }

    int told() {
        return told;
    }

    int count(int what) {
        return what == 3 ? forms.size() : in(what, 0, 2) ? counts[what] : BAD;
    }

    private void begin() {
        told = 0;
        inexact = 0;
        over = 0;
        invalid = 0;
    }

    private int end(int result) {
        if (result == INVALID) {
            counts[2]++;
            return refuse(INVALID);
        }
        counts[0] += inexact;
        counts[1] += over;
        counts[2] += invalid;
        return result;
    }

    /** Rounds x, not 0, or the root of x. */
    private int round(Form f, Ratio x, boolean root, int mode) {
        boolean minus = x.sign() < 0;
        if (minus && f.s == 0) {
            inexact++;
            return 0;
        }
        Ratio y = x.size();
        List<Integer> numbers = f.numbers();
        int great = f.great();
        if (compare(y, root, f.meaning(great).value) > 0) {
            inexact++;
            over++;
            return above(f, y, root, minus, mode);
        }
        int l = 0;
        int h = 0;
        for (int code : numbers) {
            int side = compare(y, root, f.meaning(code).value);
            if (side == 0) {
                return f.signed(minus, code);
            }
            if (side > 0) {
                l = code;
            } else {
                h = code;
                break;
            }
        }
        inexact++;
        Ratio middle = f.meaning(l).value.plus(f.meaning(h).value).times(Ratio.of(1, 2));
        int side = compare(y, root, middle);
        int even = l % 2 == 0 ? l : h;
        int odd = l % 2 == 0 ? h : l;
        int nearer = side < 0 ? l : h;
        int[] byMode = {side == 0 ? even : nearer, nearer, l, minus ? h : l, minus ? l : h, odd};
        return f.signed(minus, byMode[mode]);
    }

    private static int above(Form f, Ratio y, boolean root, boolean minus, int mode) {
        Ratio great = f.meaning(f.great()).value;
        Ratio last = f.meaning(f.last()).value;
        Ratio limit = great.plus(great.plus(last.negative()).times(Ratio.of(1, 2)));
        boolean far = compare(y, root, limit) >= 0;
        boolean[] out = {far, far, false, minus, !minus, f.great() % 2 == 0};
        return out[mode] ? f.beyond(minus) : f.signed(minus, f.great());
    }

    private static int compare(Ratio y, boolean root, Ratio with) {
        return y.compareTo(root ? with.times(with) : with);
    }

    private int invalid(Form f) {
        invalid++;
        return f.none() == NONE ? INVALID : f.none();
    }

    int format(int s, int e, int f, int bias, boolean subnormals, int top) {
        begin();
        if (!in(s, 0, 1) || !in(e, 1, 4) || !in(f, 0, 5) || !in(bias, 0, 15) || !in(top, 0, 2) || s + e + f < 3) {
            return refuse(BAD);
        }
        Form form = new Form(s, e, f, bias, subnormals, top);
        if (!forms.contains(form)) {
            if (forms.size() == 10) {
                return refuse(FULL);
            }
            forms.add(form);
        }
        return forms.indexOf(form);
    }

    int about(int format, int what) {
        begin();
        Form f = form(format);
        if (f == null || !in(what, 0, 6)) {
            return refuse(BAD);
        }
        int numbers = 0;
        for (int code = 0; f.has(code); code++) {
            numbers += f.meaning(code).number() ? 1 : 0;
        }
        int endless = f.top == 0 ? f.beyond(false) : NONE;
        return new int[] {f.bits(), f.great(), f.last(), f.none(), endless, numbers, f.bias + f.f}[what];
    }

    int kind(int format, int code, int what) {
        begin();
        Form f = form(format);
        if (f == null || !f.has(code) || !in(what, 0, 1)) {
            return refuse(BAD);
        }
        Meaning m = f.meaning(code);
        if (what == 1) {
            return m.minus ? 1 : 0;
        }
        if (m.number()) {
            return m.zero() ? 0 : f.exponent(code) == 0 && f.subnormals ? 1 : 2;
        }
        return m.endless() ? 3 : 4;
    }

    long units(int format, int code) {
        begin();
        Form f = form(format);
        if (f == null || !f.has(code)) {
            refuse(BAD);
            return Long.MIN_VALUE;
        }
        Long units = f.units(code);
        return units == null ? Long.MIN_VALUE : f.minus(code) ? -units : units;
    }

    int code(int format, long p, long q, int mode) {
        begin();
        Form f = form(format);
        if (f == null || !in(p, -1L << 40, 1L << 40) || !in(q, 1, 1 << 20) || !in(mode, 0, 5)) {
            return refuse(BAD);
        }
        return end(p == 0 ? 0 : round(f, Ratio.of(p, q), false, mode));
    }

    private int crossOne(Form from, int code, Form to, int mode) {
        Meaning m = from.meaning(code);
        if (m.none()) {
            return to.none() == NONE ? invalid(to) : to.none();
        }
        if (m.endless()) {
            return to.beyond(m.minus);
        }
        return m.zero() ? to.signed(m.minus, 0) : round(to, m.value, false, mode);
    }

    int cross(int format, int code, int to, int mode) {
        begin();
        Form f = form(format);
        Form t = form(to);
        if (f == null || t == null || !f.has(code) || !in(mode, 0, 5)) {
            return refuse(BAD);
        }
        return end(crossOne(f, code, t, mode));
    }

    /** The sum of two meanings; an exact product of two may be one of them. */
    private int plus(Form f, Meaning a, Meaning b, int mode) {
        if (a.none() || b.none()) {
            return f.none();
        }
        if (a.endless() && b.endless()) {
            return a.minus == b.minus ? f.beyond(a.minus) : invalid(f);
        }
        if (a.endless() || b.endless()) {
            return f.beyond(a.endless() ? a.minus : b.minus);
        }
        Ratio sum = a.value.plus(b.value);
        if (sum.sign() != 0) {
            return round(f, sum, false, mode);
        }
        if (a.zero() && b.zero() && a.minus == b.minus) {
            return f.signed(a.minus, 0);
        }
        return f.signed(mode == 3, 0);
    }

    /** The exact product; null where it is INVALID. */
    private static Meaning times(Meaning a, Meaning b) {
        boolean minus = a.minus != b.minus;
        if (a.none() || b.none()) {
            return new Meaning("none", minus, null);
        }
        if (a.zero() && b.endless() || a.endless() && b.zero()) {
            return null;
        }
        if (a.endless() || b.endless()) {
            return new Meaning("endless", minus, null);
        }
        return new Meaning("number", minus, a.value.times(b.value));
    }

    private int product(Form f, Meaning a, Meaning b, int mode) {
        Meaning m = times(a, b);
        if (m == null) {
            return invalid(f);
        }
        if (m.none()) {
            return f.none();
        }
        if (m.endless()) {
            return f.beyond(m.minus);
        }
        return m.zero() ? f.signed(m.minus, 0) : round(f, m.value, false, mode);
    }

    private int quotient(Form f, Meaning a, Meaning b, int mode) {
        boolean minus = a.minus != b.minus;
        if (a.endless() && b.endless() || a.zero() && b.zero()) {
            return invalid(f);
        }
        if (b.endless()) {
            return f.signed(minus, 0);
        }
        if (a.endless() || b.zero()) {
            return f.beyond(minus);
        }
        return a.zero() ? f.signed(minus, 0) : round(f, a.value.by(b.value), false, mode);
    }

    private int root(Form f, int code, int mode) {
        Meaning a = f.meaning(code);
        if (a.zero()) {
            return code;
        }
        if (a.minus) {
            return invalid(f);
        }
        return a.endless() ? code : round(f, a.value, true, mode);
    }

    private static int compare(Meaning a, Meaning b) {
        int sideA = a.endless() ? a.minus ? -1 : 1 : 0;
        int sideB = b.endless() ? b.minus ? -1 : 1 : 0;
        return sideA != 0 || sideB != 0 ? Integer.compare(sideA, sideB) : a.value.compareTo(b.value);
    }

    private static int choose(Form f, int a, int b, boolean least) {
        int c = compare(f.meaning(a), f.meaning(b));
        if (c == 0 && f.minus(a) != f.minus(b)) {
            c = f.minus(a) ? -1 : 1;
        }
        return c == 0 ? a : (c < 0) == least ? a : b;
    }

    private int one(Form f, int what, int a, int b, int mode) {
        Meaning first = f.meaning(a);
        if (first.none() || what != 4 && f.meaning(b).none()) {
            return f.none();
        }
        if (what == 4) {
            return root(f, a, mode);
        }
        Meaning second = f.meaning(b);
        switch (what) {
            case 0: return plus(f, first, second, mode);
            case 1: return plus(f, first, second.turned(), mode);
            case 2: return product(f, first, second, mode);
            case 3: return quotient(f, first, second, mode);
            default: return choose(f, a, b, what == 5);
        }
    }

    int act(int format, int what, int a, int b, int mode) {
        begin();
        Form f = form(format);
        if (f == null || !in(what, 0, 6) || !f.has(a) || what != 4 && !f.has(b) || !in(mode, 0, 5)) {
            return refuse(BAD);
        }
        return end(one(f, what, a, b, mode));
    }

    int fused(int format, int a, int b, int c, int mode) {
        begin();
        Form f = form(format);
        if (f == null || !f.has(a) || !f.has(b) || !f.has(c) || !in(mode, 0, 5)) {
            return refuse(BAD);
        }
        Meaning product = times(f.meaning(a), f.meaning(b));
        return end(product == null ? invalid(f) : plus(f, product, f.meaning(c), mode));
    }

    int next(int format, int code, boolean up) {
        begin();
        Form f = form(format);
        if (f == null || !f.has(code) || !f.meaning(code).number()) {
            return refuse(BAD);
        }
        Ratio from = f.meaning(code).value;
        int best = NONE;
        for (int c = 0; f.has(c); c++) {
            Meaning m = f.meaning(c);
            if (!m.number() || m.zero() && m.minus || (m.value.compareTo(from) > 0) != up || m.value.compareTo(from) == 0) {
                continue;
            }
            if (best == NONE || (m.value.compareTo(f.meaning(best).value) < 0) == up) {
                best = c;
            }
        }
        return best == 0 && from.sign() < 0 ? f.signed(true, 0) : best;
    }

    int order(int format, int a, int b) {
        begin();
        Form f = form(format);
        if (f == null || !f.has(a) || !f.has(b)) {
            return refuse(BAD);
        }
        return f.meaning(a).none() || f.meaning(b).none() ? 2 : compare(f.meaning(a), f.meaning(b));
    }

    int numbers(int format, long low, long high) {
        begin();
        Form f = form(format);
        if (f == null) {
            return refuse(BAD);
        }
        int found = 0;
        for (int c = 0; f.has(c); c++) {
            Long units = f.units(c);
            found += units != null && in(f.minus(c) ? -units : units, low, high) ? 1 : 0;
        }
        return found;
    }

    private boolean isRow(int row) {
        return in(row, 0, 3) && rows[row] != null;
    }

    int row(int row, int format, int n) {
        begin();
        if (!in(row, 0, 3) || form(format) == null || !in(n, 0, 16)) {
            return refuse(BAD);
        }
        rows[row] = new int[n];
        rowForms[row] = form(format);
        return 1;
    }

    int put(int row, int i, int code) {
        begin();
        if (!isRow(row) || !in(i, 0, rows[row].length - 1) || !rowForms[row].has(code)) {
            return refuse(BAD);
        }
        int before = rows[row][i];
        rows[row][i] = code;
        return before;
    }

    int at(int row, int i) {
        begin();
        return !isRow(row) || !in(i, 0, rows[row].length - 1) ? refuse(BAD) : rows[row][i];
    }

    int packed(int row, int i) {
        begin();
        if (!isRow(row)) {
            return refuse(BAD);
        }
        BigInteger all = BigInteger.ZERO;
        int bits = rowForms[row].bits();
        for (int k = 0; k < rows[row].length; k++) {
            all = all.or(BigInteger.valueOf(rows[row][k]).shiftLeft(k * bits));
        }
        int bytes = (rows[row].length * bits + 7) / 8;
        if (!in(i, -1, bytes - 1)) {
            return refuse(BAD);
        }
        return i == -1 ? bytes : all.shiftRight(8 * i).intValue() & 255;
    }

    int quantise(int row, int from, int format, int mode) {
        begin();
        Form to = form(format);
        if (!in(row, 0, 3) || !isRow(from) || row == from || to == null || !in(mode, 0, 5)) {
            return refuse(BAD);
        }
        int[] codes = new int[rows[from].length];
        for (int i = 0; i < codes.length; i++) {
            codes[i] = crossOne(rowForms[from], rows[from][i], to, mode);
            if (codes[i] == INVALID) {
                return end(INVALID);
            }
        }
        rows[row] = codes;
        rowForms[row] = to;
        return end(1);
    }

    int worst(int row, int other, int what) {
        begin();
        if (!isRow(row) || !isRow(other) || !in(what, 0, 2)) {
            return refuse(BAD);
        }
        if (rows[row].length != rows[other].length) {
            return refuse(STATE);
        }
        Ratio most = Ratio.ZERO;
        int[] answers = {NONE, 0, 0};
        for (int i = 0; i < rows[row].length; i++) {
            Meaning a = rowForms[row].meaning(rows[row][i]);
            Meaning b = rowForms[other].meaning(rows[other][i]);
            if (!a.number() || !b.number()) {
                answers[2]++;
                continue;
            }
            Ratio error = a.value.plus(b.value.negative()).size();
            answers[1] += error.sign();
            if (error.compareTo(most) > 0) {
                most = error;
                answers[0] = i;
            }
        }
        return answers[what];
    }

    /** The terms are products, where INVALID is null, or codes of a row. */
    private int exact(Form f, List<Meaning> terms, int mode) {
        Meaning endless = null;
        Ratio sum = Ratio.ZERO;
        for (Meaning m : terms) {
            if (m == null || m.endless() && endless != null && endless.minus != m.minus) {
                return invalid(f);
            }
            if (m.none()) {
                return f.none();
            }
            if (m.endless()) {
                endless = m;
            } else {
                sum = sum.plus(m.value);
            }
        }
        if (endless != null) {
            return f.beyond(endless.minus);
        }
        if (sum.sign() == 0) {
            return f.signed(!terms.isEmpty() && mode == 3, 0);
        }
        return round(f, sum, false, mode);
    }

    int sum(int row, int mode, boolean stepwise) {
        begin();
        if (!isRow(row) || !in(mode, 0, 5)) {
            return refuse(BAD);
        }
        Form f = rowForms[row];
        if (!stepwise) {
            List<Meaning> terms = new ArrayList<>();
            for (int code : rows[row]) {
                terms.add(f.meaning(code));
            }
            return end(exact(f, terms, mode));
        }
        int sum = 0;
        for (int code : rows[row]) {
            sum = one(f, 0, sum, code, mode);
            if (sum == INVALID) {
                return end(INVALID);
            }
        }
        return end(sum);
    }

    int dot(int row, int other, int mode, boolean stepwise) {
        begin();
        if (!isRow(row) || !isRow(other) || !in(mode, 0, 5)) {
            return refuse(BAD);
        }
        Form f = rowForms[row];
        if (!f.equals(rowForms[other])) {
            return refuse(STATE);
        }
        List<Meaning> terms = new ArrayList<>();
        int sum = 0;
        for (int i = 0; i < rows[row].length && i < rows[other].length; i++) {
            int a = rows[row][i];
            int b = rows[other][i];
            if (!stepwise) {
                terms.add(times(f.meaning(a), f.meaning(b)));
                continue;
            }
            int product = one(f, 2, a, b, mode);
            sum = product == INVALID ? INVALID : one(f, 0, sum, product, mode);
            if (sum == INVALID) {
                return end(INVALID);
            }
        }
        return end(stepwise ? sum : exact(f, terms, mode));
    }

    int table(int format, int what, int mode) {
        begin();
        Form f = form(format);
        if (f == null || !in(what, 0, 6) || !in(mode, 0, 5)) {
            return refuse(BAD);
        }
        if (f.bits() > 6) {
            return refuse(STATE);
        }
        if (tables == 100) {
            return refuse(FULL);
        }
        tables++;
        int n = 1 << f.bits();
        table = new int[n][n];
        for (int a = 0; a < n; a++) {
            for (int b = 0; b < n; b++) {
                int result = one(f, what, a, b, mode);
                table[a][b] = result == INVALID ? -1 : result;
            }
        }
        return n * n;
    }

    int lookup(int a, int b) {
        begin();
        if (table == null) {
            return refuse(STATE);
        }
        return in(a, 0, table.length - 1) && in(b, 0, table.length - 1) ? table[a][b] : refuse(BAD);
    }
}
