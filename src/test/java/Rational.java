import java.math.BigInteger;

/** Exact fractions for the slow model. */
record Rational(BigInteger top, BigInteger bottom) implements Comparable<Rational> {
    static final Rational ZERO = of(0);

    static Rational of(long whole) {
        return new Rational(BigInteger.valueOf(whole), BigInteger.ONE);
    }

    static Rational of(long top, long bottom) {
        return of(top).over(of(bottom));
    }

    private static Rational shortened(BigInteger top, BigInteger bottom) {
        BigInteger common = top.gcd(bottom);
        BigInteger by = bottom.signum() < 0 ? common.negate() : common;
        return new Rational(top.divide(by), bottom.divide(by));
    }

    Rational plus(Rational o) {
        return shortened(top.multiply(o.bottom).add(o.top.multiply(bottom)), bottom.multiply(o.bottom));
    }

    Rational minus(Rational o) {
        return plus(o.by(of(-1)));
    }

    Rational by(Rational o) {
        return shortened(top.multiply(o.top), bottom.multiply(o.bottom));
    }

    Rational over(Rational o) {
        return shortened(top.multiply(o.bottom), bottom.multiply(o.top));
    }

    Rational size() {
        return top.signum() < 0 ? by(of(-1)) : this;
    }

    Rational lesser(Rational o) {
        return compareTo(o) <= 0 ? this : o;
    }

    @Override
    public int compareTo(Rational o) {
        return top.multiply(o.bottom).compareTo(o.top.multiply(bottom));
    }

    @Override
    public String toString() {
        return top + "/" + bottom;
    }
}
