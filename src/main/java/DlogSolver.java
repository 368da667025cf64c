/** Powers, orders, logarithms and roots modulo a small prime. */
public final class DlogSolver {
    public static final int BAD_ARG = -1;
    public static final int NONE = -4;

    private static final int LEAST_PRIME = 3;
    private static final int GREATEST_PRIME = 2039;
    private static final int GREATEST_EXPONENT = 1000000;
    // GREATEST_EXPONENT is below 2 to the 20.
    private static final int EXPONENT_BITS = 20;
    private static final int GREATEST_STEP = 60;

    private int currentPrime;

    public DlogSolver() {
        currentPrime = LEAST_PRIME;
    }

    public int prime(int p) {
        if (p < LEAST_PRIME || p > GREATEST_PRIME || !isPrime(p)) {
            return BAD_ARG;
        }
        int before = currentPrime;
        currentPrime = p;
        return before;
    }

    public int modulus() {
        return currentPrime;
    }

    public int nextPrime() {
        for (int n = currentPrime + 1; n <= GREATEST_PRIME; n++) {
            if (isPrime(n)) {
                currentPrime = n;
                return n;
            }
        }
        return NONE;
    }

    public int power(int g, int x) {
        if (!isUnit(g) || x < 0 || x > GREATEST_EXPONENT) {
            return BAD_ARG;
        }
        return raise(g, x);
    }

    public int inverse(int g) {
        if (!isUnit(g)) {
            return BAD_ARG;
        }
        // Fermat: g to the P - 1 is 1, so one factor g less is the inverse.
        return raise(g, currentPrime - 2);
    }

    public int order(int g) {
        if (!isUnit(g)) {
            return BAD_ARG;
        }
        return orderOfUnit(g);
    }

    public int generator() {
        return leastOfOrder(currentPrime - 1);
    }

    public int generators() {
        return countOfOrder(currentPrime - 1);
    }

    public int log(int g, int h) {
        if (!isUnit(g) || !isUnit(h)) {
            return BAD_ARG;
        }
        return leastExponent(g, h, 0, 1);
    }

    public int root(int h, int k) {
        if (!isRootQuestion(h, k)) {
            return BAD_ARG;
        }
        for (int y = 1; y < currentPrime; y++) {
            if (raise(y, k) == h) {
                return y;
            }
        }
        return NONE;
    }

    public int roots(int h, int k) {
        if (!isRootQuestion(h, k)) {
            return BAD_ARG;
        }
        int count = 0;
        for (int y = 1; y < currentPrime; y++) {
            if (raise(y, k) == h) {
                count++;
            }
        }
        return count;
    }

    public int logWith(int g, int h, int r, int m) {
        if (!isUnit(g) || !isUnit(h)) {
            return BAD_ARG;
        }
        if (m < 1 || m > GREATEST_STEP || r < 0 || r >= m) {
            return BAD_ARG;
        }
        return leastExponent(g, h, r, m);
    }

    public int common(int g, int h) {
        if (!isUnit(g) || !isUnit(h)) {
            return BAD_ARG;
        }
        // The units are a cyclic group: the powers of g are exactly the units
        // whose order divides the order of g, and there are order-many of them.
        int orderOfG = orderOfUnit(g);
        int orderOfH = orderOfUnit(h);
        return greatestCommonDivisor(orderOfG, orderOfH);
    }

    public int unitOfOrder(int d) {
        if (d < 1) {
            return BAD_ARG;
        }
        return leastOfOrder(d);
    }

    public int unitsOfOrder(int d) {
        if (d < 1) {
            return 0;
        }
        return countOfOrder(d);
    }

    private boolean isUnit(int g) {
        return g >= 1 && g < currentPrime;
    }

    private boolean isRootQuestion(int h, int k) {
        return isUnit(h) && k >= 1 && k <= GREATEST_EXPONENT;
    }

    /** For n >= 2. */
    private static boolean isPrime(int n) {
        for (int d = 2; d < n; d++) {
            if (n % d == 0) {
                return false;
            }
        }
        return true;
    }

    /** Both factors are below P, so the product stays far inside an int. */
    private int times(int a, int b) {
        return a * b % currentPrime;
    }

    /** For a unit g and x from 0 to GREATEST_EXPONENT. */
    private int raise(int g, int x) {
        int result = 1;
        for (int bit = EXPONENT_BITS - 1; bit >= 0; bit--) {
            result = times(result, result);
            if ((x >> bit & 1) == 1) {
                result = times(result, g);
            }
        }
        return result;
    }

    /** For a unit g. The order is at most P - 1, so the bound is never what ends the loop early. */
    private int orderOfUnit(int g) {
        int value = g;
        int x = 1;
        while (value != 1 && x < currentPrime - 1) {
            value = times(value, g);
            x++;
        }
        return x;
    }

    /** The least x of r, r + m, r + 2m and so on with g to the x = h, or NONE. */
    private int leastExponent(int g, int h, int r, int m) {
        int value = raise(g, r);
        int factor = raise(g, m);
        // The powers of factor come round after P - 1 steps at the latest.
        for (int i = 0; i < currentPrime - 1; i++) {
            if (value == h) {
                return r + i * m;
            }
            value = times(value, factor);
        }
        return NONE;
    }

    /** For d >= 1. */
    private boolean isAnOrder(int d) {
        return (currentPrime - 1) % d == 0;
    }

    /** For d >= 1. */
    private int leastOfOrder(int d) {
        if (!isAnOrder(d)) {
            return NONE;
        }
        for (int g = 1; g < currentPrime; g++) {
            // The power is quick to find and spares the long count for most units.
            if (raise(g, d) == 1 && orderOfUnit(g) == d) {
                return g;
            }
        }
        return NONE;
    }

    /** For d >= 1. A cyclic group has as many elements of order d as there are numbers up to d prime to d. */
    private int countOfOrder(int d) {
        if (!isAnOrder(d)) {
            return 0;
        }
        int count = d;
        for (int q = 2; q <= d; q++) {
            if (d % q == 0 && isPrime(q)) {
                count = count / q * (q - 1);
            }
        }
        return count;
    }

    /** For a >= 1 and b >= 1. */
    private static int greatestCommonDivisor(int a, int b) {
        for (int d = a; d > 1; d--) {
            if (a % d == 0 && b % d == 0) {
                return d;
            }
        }
        return 1;
    }
}
