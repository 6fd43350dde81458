import java.math.BigInteger;
import java.util.ArrayList;
import java.util.List;
import java.util.TreeMap;

/** The document's words, followed as plainly as can be; every answer comes from Elimination. */
final class Model {
    private int n = 1;
    private int m = 0;
    private int[][] a = new int[0][1];
    private int[] b = new int[0];
    private int[] c = new int[1];
    private int[] e = new int[0];
    private int[] senses = new int[0];

    /** Bounds of a sum over some points; null where there is none. */
    private static final class Span {
        boolean empty = false;
        Rational low = null;
        Rational high = null;
    }

    void begin(int n, int m) {
        argument(n >= 1 && n <= 4 && m >= 0 && m <= 3);
        this.n = n;
        this.m = m;
        a = new int[m][n];
        b = new int[m];
        c = new int[n];
        e = new int[m];
        senses = new int[m];
    }

    void coefficient(int i, int j, int v) {
        index(i, m);
        index(j, n);
        argument(Math.abs((long) v) <= 9);
        a[i][j] = v;
    }

    void row(int i, int sense, int right) {
        index(i, m);
        argument(sense >= 0 && sense <= 2 && Math.abs((long) right) <= 50);
        senses[i] = sense;
        b[i] = right;
    }

    void want(int j, int v) {
        index(j, n);
        argument(Math.abs((long) v) <= 9);
        c[j] = v;
    }

    void drift(int i, int v) {
        index(i, m);
        argument(Math.abs((long) v) <= 9);
        e[i] = v;
    }

    int solve() {
        Span worth = spanOf(c, null, (1 << m) - 1);
        return worth.empty ? 1 : worth.high == null ? 2 : 0;
    }

    long value(int what) {
        state(solve() == 0);
        argument(what == 0 || what == 1);
        return best().part(what);
    }

    long point(int j, int what) {
        state(solve() == 0);
        index(j, n);
        argument(what == 0 || what == 1);
        List<Rational[]> fixed = bestOnly();
        Rational least = null;
        for (int k = 0; k <= j; k++) {
            least = spanOf(unit(k), fixed, (1 << m) - 1).low;
            fixed.add(sharp(unit(k), least));
        }
        return least.part(what);
    }

    long range(int j, boolean high, int what) {
        state(solve() != 1);
        index(j, n);
        argument(what == 0 || what == 1);
        Span span = spanOf(unit(j), null, (1 << m) - 1);
        Rational end = high ? span.high : span.low;
        if (end == null) {
            throw new UnsupportedOperationException();
        }
        return end.part(what);
    }

    boolean tight(int i) {
        state(solve() == 0);
        index(i, m);
        Span span = spanOf(a[i], bestOnly(), (1 << m) - 1);
        Rational right = Rational.of(b[i]);
        return span.low != null && span.high != null && span.low.compareTo(right) == 0 && span.high.compareTo(right) == 0;
    }

    int conflict() {
        state(solve() == 1);
        int stay = (1 << m) - 1;
        for (int i = 0; i < m; i++) {
            if (spanOf(c, null, stay & ~(1 << i)).empty) {
                stay &= ~(1 << i);
            }
        }
        return stay;
    }

    int corners() {
        return allCorners().size();
    }

    long corner(int k, int what) {
        List<Rational[]> all = allCorners();
        index(k, all.size());
        argument(what >= 0 && what <= 3);
        return all.get(k)[what / 2].part(what % 2);
    }

    private static void argument(boolean good) {
        if (!good) {
            throw new IllegalArgumentException();
        }
    }

    private static void index(int k, int size) {
        if (k < 0 || k >= size) {
            throw new IndexOutOfBoundsException();
        }
    }

    private static void state(boolean good) {
        if (!good) {
            throw new IllegalStateException();
        }
    }

    private Rational best() {
        return spanOf(c, null, (1 << m) - 1).high;
    }

    private List<Rational[]> bestOnly() {
        List<Rational[]> fixed = new ArrayList<>();
        fixed.add(sharp(c, best()));
        return fixed;
    }

    private int[] unit(int j) {
        int[] unit = new int[n];
        unit[j] = 1;
        return unit;
    }

    /** The sum with these factors is this; then t and the sum asked for, which do not stand in it. */
    private Rational[] sharp(int[] factors, Rational is) {
        return line(factors, 1, Rational.ZERO, Rational.ZERO, is.negated());
    }

    private Rational[] line(int[] factors, int sign, Rational t, Rational sum, Rational constant) {
        Rational[] line = new Rational[n + 3];
        for (int j = 0; j < n; j++) {
            line[j] = Rational.of((long) sign * factors[j]);
        }
        line[n] = t;
        line[n + 1] = sum;
        line[n + 2] = constant;
        return line;
    }

    /** The variables are x, then t, then the sum with the given factors. */
    private Elimination program(int[] factors, int mask) {
        Elimination all = new Elimination(n + 2);
        for (int j = 0; j < n; j++) {
            all.add(false, line(unit(j), 1, Rational.ZERO, Rational.ZERO, Rational.ZERO));
        }
        for (int i = 0; i < m; i++) {
            if ((mask >> i & 1) == 1) {
                int sign = senses[i] == 0 ? -1 : 1;
                all.add(senses[i] == 1, line(a[i], sign, Rational.of(-sign * e[i]), Rational.ZERO, Rational.of(-sign * b[i])));
            }
        }
        all.add(true, line(factors, 1, Rational.ZERO, Rational.of(-1), Rational.ZERO));
        return all;
    }

    private Span spanOf(int[] factors, List<Rational[]> fixed, int mask) {
        Elimination all = program(factors, mask);
        all.add(true, line(new int[n], 1, Rational.ONE, Rational.ZERO, Rational.ZERO));
        if (fixed != null) {
            for (Rational[] line : fixed) {
                all.add(true, line);
            }
        }
        return spanOf(all.about(n + 1), n + 1);
    }

    private static Span spanOf(List<BigInteger[]> lines, int at) {
        Span span = new Span();
        for (BigInteger[] line : lines) {
            int sign = line[at].signum();
            BigInteger constant = line[line.length - 1];
            if (sign == 0) {
                span.empty |= constant.signum() < 0;
                continue;
            }
            Rational end = new Rational(constant.negate(), line[at]);
            if (sign > 0 && (span.low == null || end.compareTo(span.low) > 0)) {
                span.low = end;
            }
            if (sign < 0 && (span.high == null || end.compareTo(span.high) < 0)) {
                span.high = end;
            }
        }
        span.empty |= span.low != null && span.high != null && span.low.compareTo(span.high) > 0;
        return span;
    }

    private Elimination drifting() {
        Elimination all = program(c, (1 << m) - 1);
        all.add(false, line(new int[n], 1, Rational.ONE, Rational.ZERO, Rational.ZERO));
        all.add(false, line(new int[n], 1, Rational.of(-1), Rational.ZERO, Rational.ONE));
        return all;
    }

    /** The t for which the program at t is feasible: like program, but t comes last. */
    private Span times() {
        Elimination all = new Elimination(n + 1);
        for (int j = 0; j < n; j++) {
            all.add(false, timed(unit(j), 1, Rational.ZERO, Rational.ZERO));
        }
        for (int i = 0; i < m; i++) {
            int sign = senses[i] == 0 ? -1 : 1;
            all.add(senses[i] == 1, timed(a[i], sign, Rational.of(-sign * e[i]), Rational.of(-sign * b[i])));
        }
        all.add(false, timed(new int[n], 1, Rational.ONE, Rational.ZERO));
        all.add(false, timed(new int[n], 1, Rational.of(-1), Rational.ONE));
        return spanOf(all.about(n), n);
    }

    private Rational[] timed(int[] factors, int sign, Rational t, Rational constant) {
        Rational[] line = new Rational[n + 2];
        for (int j = 0; j < n; j++) {
            line[j] = Rational.of((long) sign * factors[j]);
        }
        line[n] = t;
        line[n + 1] = constant;
        return line;
    }

    /** V is the lowest of the lines slope * t + start that lie above all points. */
    private List<Rational[]> allCorners() {
        Span times = times();
        List<Rational[]> above = new ArrayList<>();
        for (BigInteger[] line : drifting().about(n)) {
            if (line[n + 1].signum() < 0) {
                BigInteger below = line[n + 1].negate();
                above.add(new Rational[] {new Rational(line[n], below), new Rational(line[n + 2], below)});
            }
        }
        if (times.empty || above.isEmpty()) {
            return new ArrayList<>();
        }
        TreeMap<Rational, Rational> found = new TreeMap<>();
        found.put(times.low, lowest(above, times.low));
        found.put(times.high, lowest(above, times.high));
        for (Rational[] p : above) {
            for (Rational[] q : above) {
                addBend(above, p, q, times, found);
            }
        }
        List<Rational[]> all = new ArrayList<>();
        for (Rational t : found.keySet()) {
            all.add(new Rational[] {t, found.get(t)});
        }
        return all;
    }

    private static void addBend(List<Rational[]> above, Rational[] p, Rational[] q, Span times,
            TreeMap<Rational, Rational> found) {
        Rational slope = p[0].minus(q[0]);
        if (slope.above.signum() == 0) {
            return;
        }
        Rational rise = q[1].minus(p[1]);
        Rational t = rise.over(slope);
        if (t.compareTo(times.low) <= 0 || t.compareTo(times.high) >= 0) {
            return;
        }
        Rational lowest = lowest(above, t);
        if (lowest.compareTo(p[0].times(t).plus(p[1])) == 0) {
            found.put(t, lowest);
        }
    }

    private static Rational lowest(List<Rational[]> above, Rational t) {
        Rational lowest = null;
        for (Rational[] line : above) {
            Rational worth = line[0].times(t).plus(line[1]);
            if (lowest == null || worth.compareTo(lowest) < 0) {
                lowest = worth;
            }
        }
        return lowest;
    }
}
