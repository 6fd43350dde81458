import java.math.BigInteger;
import java.util.ArrayList;
import java.util.List;

/**
 * Linear rows over some variables, from which variables can be taken out by
 * Gauss (sharp rows) and by Fourier and Motzkin (rows from 0 on). It is slow,
 * and shares no thought with the program that it judges.
 */
final class Elimination {
    /** factors over the variables, last the constant; the sum is at least 0, or is 0 if sharp. */
    private static final class Line {
        final BigInteger[] factors;
        final boolean sharp;
        final long history;

        Line(BigInteger[] factors, boolean sharp, long history) {
            this.factors = factors;
            this.sharp = sharp;
            this.history = history;
        }
    }

    private final int variables;
    private List<Line> lines = new ArrayList<>();
    private int taken = 0;

    Elimination(int variables) {
        this.variables = variables;
    }

    void add(boolean sharp, Rational... factors) {
        BigInteger below = BigInteger.ONE;
        for (Rational f : factors) {
            below = below.multiply(f.below);
        }
        BigInteger[] whole = new BigInteger[variables + 1];
        for (int k = 0; k <= variables; k++) {
            whole[k] = factors[k].above.multiply(below.divide(factors[k].below));
        }
        lines.add(new Line(shorten(whole), sharp, 0));
    }

    private static BigInteger[] shorten(BigInteger[] factors) {
        BigInteger divisor = BigInteger.ZERO;
        for (BigInteger f : factors) {
            divisor = divisor.gcd(f);
        }
        if (divisor.signum() == 0) {
            return factors;
        }
        BigInteger[] shorter = new BigInteger[factors.length];
        for (int k = 0; k < factors.length; k++) {
            shorter[k] = factors[k].divide(divisor);
        }
        return shorter;
    }

    /** p * left + q * right. */
    private static BigInteger[] mix(BigInteger p, BigInteger[] left, BigInteger q, BigInteger[] right) {
        BigInteger[] mixed = new BigInteger[left.length];
        for (int k = 0; k < left.length; k++) {
            mixed[k] = p.multiply(left[k]).add(q.multiply(right[k]));
        }
        return shorten(mixed);
    }

    /** What all rows together say about the variables from the number kept on, as rows from 0 on. */
    List<BigInteger[]> about(int kept) {
        for (int v = 0; v < kept; v++) {
            substitute(v);
        }
        nameHistories();
        for (int v = 0; v < kept; v++) {
            combine(v);
        }
        List<BigInteger[]> left = new ArrayList<>();
        for (Line line : lines) {
            left.add(line.factors);
            if (line.sharp) {
                left.add(mix(BigInteger.ONE.negate(), line.factors, BigInteger.ZERO, line.factors));
            }
        }
        return left;
    }

    private void substitute(int v) {
        Line pivot = null;
        for (Line line : lines) {
            if (line.sharp && line.factors[v].signum() != 0) {
                pivot = line;
            }
        }
        if (pivot == null) {
            return;
        }
        List<Line> rest = new ArrayList<>();
        BigInteger size = pivot.factors[v].abs();
        BigInteger sign = BigInteger.valueOf(pivot.factors[v].signum());
        for (Line line : lines) {
            if (line != pivot) {
                BigInteger q = line.factors[v].multiply(sign).negate();
                rest.add(new Line(mix(size, line.factors, q, pivot.factors), line.sharp, 0));
            }
        }
        lines = rest;
    }

    private void nameHistories() {
        List<Line> named = new ArrayList<>();
        for (Line line : lines) {
            named.add(new Line(line.factors, line.sharp, 1L << named.size()));
        }
        lines = named;
    }

    private void combine(int v) {
        boolean stands = false;
        for (Line line : lines) {
            stands |= line.factors[v].signum() != 0;
        }
        if (!stands) {
            return;
        }
        taken++;
        List<Line> rest = new ArrayList<>();
        for (Line up : lines) {
            if (up.factors[v].signum() == 0) {
                rest.add(up);
            }
            for (Line down : lines) {
                if (up.factors[v].signum() > 0 && down.factors[v].signum() < 0) {
                    long history = up.history | down.history;
                    // Chernikov's rule: a row mixed of more than these follows from the others.
                    if (Long.bitCount(history) <= taken + 1) {
                        rest.add(new Line(mix(down.factors[v].negate(), up.factors, up.factors[v], down.factors), false,
                                history));
                    }
                }
            }
        }
        lines = rest;
    }
}
