import java.math.BigInteger;

/** An exact fraction for the tests: slow, but it can't wrap. */
final class Ratio implements Comparable<Ratio> {
    static final Ratio ZERO = of(0, 1);

    final BigInteger up;
    final BigInteger low;

    private Ratio(BigInteger up, BigInteger low) {
        BigInteger by = up.gcd(low);
        if (low.signum() < 0) {
            by = by.negate();
        }
        this.up = up.divide(by);
        this.low = low.divide(by);
    }

    static Ratio of(long up, long low) {
        return new Ratio(BigInteger.valueOf(up), BigInteger.valueOf(low));
    }

    Ratio plus(Ratio o) {
        return new Ratio(up.multiply(o.low).add(o.up.multiply(low)), low.multiply(o.low));
    }

    Ratio minus(Ratio o) {
        return plus(new Ratio(o.up.negate(), o.low));
    }

    Ratio times(Ratio o) {
        return new Ratio(up.multiply(o.up), low.multiply(o.low));
    }

    Ratio over(Ratio o) {
        return new Ratio(up.multiply(o.low), low.multiply(o.up));
    }

    long part(int which) {
        return (which == 0 ? up : low).longValueExact();
    }

    @Override
    public int compareTo(Ratio o) {
        return up.multiply(o.low).compareTo(o.up.multiply(low));
    }
}
