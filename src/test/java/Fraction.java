/** An exact fraction in lowest terms with a positive number below. */
record Fraction(long above, long below) implements Comparable<Fraction> {
  static Fraction of(long above, long below) {
    long g = java.math.BigInteger.valueOf(above).gcd(java.math.BigInteger.valueOf(below)).longValueExact();
    long sign = below < 0 ? -1 : 1;
    return new Fraction(sign * above / g, sign * below / g);
  }

  static Fraction whole(long n) {
    return new Fraction(n, 1);
  }

  Fraction plus(Fraction o) {
    return of(Math.addExact(Math.multiplyExact(above, o.below), Math.multiplyExact(o.above, below)),
        Math.multiplyExact(below, o.below));
  }

  Fraction minus(Fraction o) {
    return plus(new Fraction(-o.above, o.below));
  }

  Fraction times(Fraction o) {
    return of(Math.multiplyExact(above, o.above), Math.multiplyExact(below, o.below));
  }

  Fraction by(Fraction o) {
    return times(of(o.below, o.above));
  }

  long floor() {
    return Math.floorDiv(above, below);
  }

  @Override
  public int compareTo(Fraction o) {
    return Long.signum(Math.subtractExact(
        Math.multiplyExact(above, o.below), Math.multiplyExact(o.above, below)));
  }
}
