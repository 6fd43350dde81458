import java.math.BigInteger;

/** A fraction without a common divisor, the one below greater than 0. */
final class Rational implements Comparable<Rational> {
    static final Rational ZERO = of(0);
    static final Rational ONE = of(1);

    final BigInteger above;
    final BigInteger below;

    Rational(BigInteger above, BigInteger below) {
        BigInteger divisor = above.gcd(below);
        if (below.signum() < 0) {
            divisor = divisor.negate();
        }
        this.above = above.divide(divisor);
        this.below = below.divide(divisor);
    }

    static Rational of(long whole) {
        return of(whole, 1);
    }

    static Rational of(long above, long below) {
        return new Rational(BigInteger.valueOf(above), BigInteger.valueOf(below));
    }

    Rational plus(Rational other) {
        return new Rational(above.multiply(other.below).add(other.above.multiply(below)), below.multiply(other.below));
    }

    Rational times(Rational other) {
        return new Rational(above.multiply(other.above), below.multiply(other.below));
    }

    Rational negated() {
        return new Rational(above.negate(), below);
    }

    Rational minus(Rational other) {
        return plus(other.negated());
    }

    Rational over(Rational other) {
        return times(new Rational(other.below, other.above));
    }

    long part(int what) {
        return (what == 0 ? above : below).longValueExact();
    }

    @Override
    public int compareTo(Rational other) {
        return above.multiply(other.below).compareTo(other.above.multiply(below));
    }

    @Override
    public String toString() {
        return above + "/" + below;
    }
}
