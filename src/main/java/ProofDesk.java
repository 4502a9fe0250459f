/**
 * A group of squares modulo a prime p = 2 q + 1, and proofs in it that one knows an exponent.
 * ../shared/DOC.md says what each call promises.
 */
public final class ProofDesk {
    private static final int LEAST_PRIME = 5;
    private static final int LARGEST_PRIME_FOR_LOG = 20000;

    private int p;
    private int q;
    private int g;

    public ProofDesk() {
        p = 23;
        q = 11;
        g = 2;
    }

    public boolean begin(int p, int g) {
        if (!isGroup(p, g)) {
            return false;
        }
        this.p = p;
        this.q = halfOf(p);
        this.g = g;
        return true;
    }

    public boolean member(int y) {
        return isMember(y, p);
    }

    public int product(int a, int b) throws IllegalArgumentException {
        requireResidue(a);
        requireResidue(b);
        return times(a, b, p);
    }

    public int power(int a, long e) throws IllegalArgumentException {
        requireResidue(a);
        if (e < 0) {
            throw new IllegalArgumentException("the exponent is below 0");
        }
        return raised(a, e, p);
    }

    public int inverse(int a) throws IllegalArgumentException {
        requireResidue(a);
        if (a == 0) {
            throw new IllegalArgumentException("0 has no inverse");
        }
        return inverted(a, p);
    }

    public int log(int y) throws IllegalArgumentException, IllegalStateException {
        requireMember(y);
        if (p > LARGEST_PRIME_FOR_LOG) {
            throw new IllegalStateException("p is too large for log");
        }
        int x = 0;
        int reached = 1;
        // q is prime, so the powers of g up to q - 1 are all the members: y is among them.
        while (x < q - 1 && reached != y) {
            reached = times(reached, g, p);
            x++;
        }
        return x;
    }

    public boolean accepts(int y, int a, int c, int z) {
        if (!isMember(y, p) || !isMember(a, p) || !isExponent(c) || !isExponent(z)) {
            return false;
        }
        return raised(g, z, p) == times(a, raised(y, c, p), p);
    }

    public int answer(int x, int k, int c) throws IllegalArgumentException {
        requireExponent(x);
        requireExponent(k);
        requireExponent(c);
        return sum(k, times(c, x, q), q);
    }

    public int feign(int y, int c, int z) throws IllegalArgumentException {
        requireMember(y);
        requireExponent(c);
        requireExponent(z);
        // The q-th power of a member is 1, so its power q - c undoes its power c.
        return times(raised(g, z, p), raised(y, q - c, p), p);
    }

    public int secret(int c, int z, int d, int w) throws IllegalArgumentException {
        requireExponent(c);
        requireExponent(z);
        requireExponent(d);
        requireExponent(w);
        if (c == d) {
            throw new IllegalArgumentException("the two challenges are one");
        }
        return times(difference(z, w, q), inverted(difference(c, d, q), q), q);
    }

    public int count(int what) throws IllegalArgumentException {
        switch (what) {
            case 0:
                return p;
            case 1:
                return q;
            case 2:
                return g;
            default:
                throw new IllegalArgumentException("what is not 0 to 2");
        }
    }

    private void requireResidue(int a) {
        if (a < 0 || a >= p) {
            throw new IllegalArgumentException("a number is not 0 to p - 1");
        }
    }

    private void requireMember(int y) {
        if (!isMember(y, p)) {
            throw new IllegalArgumentException("a number is no member");
        }
    }

    private void requireExponent(int e) {
        if (!isExponent(e)) {
            throw new IllegalArgumentException("a number is not 0 to q - 1");
        }
    }

    private boolean isExponent(int e) {
        return e >= 0 && e < q;
    }

    private static boolean isGroup(int p, int g) {
        // The generator is looked at first: it costs little and rules out most wrong p, too.
        return p >= LEAST_PRIME
            && g != 1
            && isMember(g, p)
            && isPrime(halfOf(p))
            && isPrime(p);
    }

    private static int halfOf(int p) {
        return (p - 1) / 2;
    }

    private static boolean isMember(int y, int p) {
        return y >= 1 && y < p && raised(y, halfOf(p), p) == 1;
    }

    private static boolean isPrime(int n) {
        if (n < 4) {
            return n >= 2;
        }
        if (n % 2 == 0 || n % 3 == 0) {
            return false;
        }
        // What is left to try are the neighbours of multiples of 6; the square of the last one
        // passes the largest int, so it is taken as a long.
        for (int d = 5; (long) d * d <= n; d += 6) {
            if (n % d == 0 || n % (d + 2) == 0) {
                return false;
            }
        }
        return true;
    }

    private static int sum(int a, int b, int modulus) {
        return (int) (((long) a + b) % modulus);
    }

    private static int difference(int a, int b, int modulus) {
        return a >= b ? a - b : a - b + modulus;
    }

    private static int times(int a, int b, int modulus) {
        return (int) ((long) a * b % modulus);
    }

    private static int raised(int base, long exponent, int modulus) {
        int result = 1;
        int square = base;
        for (long rest = exponent; rest > 0; rest >>= 1) {
            if ((rest & 1) == 1) {
                result = times(result, square, modulus);
            }
            square = times(square, square, modulus);
        }
        return result;
    }

    /** The inverse of a number from 1 to prime - 1: its power prime - 1 is 1. */
    private static int inverted(int a, int prime) {
        return raised(a, prime - 2, prime);
    }
}
