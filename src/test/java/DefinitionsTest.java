import java.math.BigInteger;
import java.util.ArrayList;
import java.util.List;

/** The answers against the document's definitions, worked out the slow way. */
public final class DefinitionsTest {
    private static final int BAD_ARG = -1;
    private static final int NONE = -4;
    private static final int CALLS_OF_ONE_OBJECT = 512;

    private static int wrong = 0;

    private static List<Integer> primes;

    // What the definitions say for the prime at hand.
    private static int p;
    private static int[] orders;

    // The object under test, replaced by a new one before its 512 calls are used up.
    private static DlogSolver solver;
    private static int calls;

    private static DlogSolver solver() {
        if (solver == null || calls == CALLS_OF_ONE_OBJECT) {
            solver = new DlogSolver();
            solver.prime(p);
            calls = 1;
        }
        calls++;
        return solver;
    }

    private static void due(int got, int want, String call, int... args) {
        if (got == want) {
            return;
        }
        wrong++;
        if (wrong <= 100) {
            StringBuilder text = new StringBuilder("P = " + p + ": " + call);
            for (int arg : args) {
                text.append(' ').append(arg);
            }
            System.out.println(text + " answered " + got + ", due is " + want);
        }
    }

    private static List<Integer> oddPrimes(int greatest) {
        boolean[] composite = new boolean[greatest + 1];
        List<Integer> found = new ArrayList<>();
        for (int n = 2; n <= greatest; n++) {
            if (!composite[n]) {
                if (n > 2) {
                    found.add(n);
                }
                for (int k = 2 * n; k <= greatest; k += n) {
                    composite[k] = true;
                }
            }
        }
        return found;
    }

    private static void take(int prime) {
        p = prime;
        solver = null;
        orders = new int[p];
        for (int g = 1; g < p; g++) {
            int value = g;
            int x = 1;
            while (value != 1) {
                value = value * g % p;
                x++;
            }
            orders[g] = x;
        }
    }

    private static boolean unit(int g) {
        return g >= 1 && g <= p - 1;
    }

    private static int power(int g, int x) {
        if (!unit(g) || x < 0 || x > 1000000) {
            return BAD_ARG;
        }
        return BigInteger.valueOf(g).modPow(BigInteger.valueOf(x), BigInteger.valueOf(p)).intValue();
    }

    private static int inverse(int g) {
        if (!unit(g)) {
            return BAD_ARG;
        }
        int y = 1;
        while (g * y % p != 1) {
            y++;
        }
        return y;
    }

    private static int order(int g) {
        return unit(g) ? orders[g] : BAD_ARG;
    }

    private static int firstOfOrder(int d) {
        for (int g = 1; g < p; g++) {
            if (orders[g] == d) {
                return g;
            }
        }
        return NONE;
    }

    private static int countOfOrder(int d) {
        int count = 0;
        for (int g = 1; g < p; g++) {
            if (orders[g] == d) {
                count++;
            }
        }
        return count;
    }

    private static int logWith(int g, int h, int r, int m) {
        if (!unit(g) || !unit(h) || m < 1 || m > 60 || r < 0 || r > m - 1) {
            return BAD_ARG;
        }
        int value = 1;
        for (int x = 0; x <= (p - 1) * m; x++) {
            if (value == h && x % m == r) {
                return x;
            }
            value = value * g % p;
        }
        return NONE;
    }

    private static int[] leastRootAndCount(int h, int k) {
        if (!unit(h) || k < 1 || k > 1000000) {
            return new int[] {BAD_ARG, BAD_ARG};
        }
        int least = NONE;
        int count = 0;
        for (int y = p - 1; y >= 1; y--) {
            if (power(y, k) == h) {
                least = y;
                count++;
            }
        }
        return new int[] {least, count};
    }

    private static boolean[] powers(int g) {
        boolean[] reached = new boolean[p];
        int value = 1;
        for (int x = 0; x < p; x++) {
            reached[value] = true;
            value = value * g % p;
        }
        return reached;
    }

    private static int common(int g, int h) {
        if (!unit(g) || !unit(h)) {
            return BAD_ARG;
        }
        boolean[] ofG = powers(g);
        boolean[] ofH = powers(h);
        int count = 0;
        for (int u = 1; u < p; u++) {
            if (ofG[u] && ofH[u]) {
                count++;
            }
        }
        return count;
    }

    private static void everyPrimeArgument() {
        p = 3;
        for (int n = -100; n <= 5000; n++) {
            DlogSolver x = new DlogSolver();
            boolean allowed = primes.contains(n);
            due(x.prime(n), allowed ? 3 : BAD_ARG, "prime", n);
            due(x.modulus(), allowed ? n : 3, "modulus after prime", n);
        }
    }

    private static void everyNextPrime() {
        DlogSolver x = new DlogSolver();
        for (int i = 1; i < primes.size(); i++) {
            p = primes.get(i - 1);
            due(x.nextPrime(), primes.get(i), "nextPrime");
        }
        p = 2039;
        due(x.nextPrime(), NONE, "nextPrime");
        due(x.modulus(), 2039, "modulus after nextPrime");
    }

    private static void checkUnit(int g) {
        due(solver().order(g), order(g), "order", g);
        due(solver().inverse(g), inverse(g), "inverse", g);
    }

    private static void checkOrder(int d) {
        due(solver().unitOfOrder(d), d < 1 ? BAD_ARG : firstOfOrder(d), "unitOfOrder", d);
        due(solver().unitsOfOrder(d), d < 1 ? 0 : countOfOrder(d), "unitsOfOrder", d);
    }

    private static void checkPair(int g, int h) {
        due(solver().log(g, h), logWith(g, h, 0, 1), "log", g, h);
        due(solver().common(g, h), common(g, h), "common", g, h);
    }

    private static void checkRoots(int h, int k) {
        int[] want = leastRootAndCount(h, k);
        due(solver().root(h, k), want[0], "root", h, k);
        due(solver().roots(h, k), want[1], "roots", h, k);
    }

    private static void checkLogWith(int g, int h, int r, int m) {
        due(solver().logWith(g, h, r, m), logWith(g, h, r, m), "logWith", g, h, r, m);
    }

    private static void checkPower(int g, int x) {
        due(solver().power(g, x), power(g, x), "power", g, x);
    }

    private static void everyPrimeWithAllItsUnits() {
        for (int prime : primes) {
            take(prime);
            due(solver().modulus(), p, "modulus");
            due(solver().generator(), firstOfOrder(p - 1), "generator");
            due(solver().generators(), countOfOrder(p - 1), "generators");
            for (int n = -1; n <= p + 1; n++) {
                checkUnit(n);
                checkOrder(n);
            }
        }
    }

    private static void smallPrimesWithAllArguments() {
        for (int prime : new int[] {3, 5, 7, 11, 13, 17}) {
            take(prime);
            for (int g = -1; g <= p + 1; g++) {
                for (int h = -1; h <= p + 1; h++) {
                    checkPair(g, h);
                    for (int m = -1; m <= 61; m++) {
                        for (int r = -1; r <= m; r++) {
                            checkLogWith(g, h, r, m);
                        }
                    }
                }
                for (int k = -1; k <= 3 * p; k++) {
                    checkRoots(g, k);
                    checkPower(g, k);
                }
            }
        }
    }

    private static int state = 1;

    /** A fixed sequence that looks mixed: the same numbers in every run. */
    private static int pick(int least, int greatest) {
        state = state * 1103515245 + 12345;
        return least + (state >>> 8) % (greatest - least + 1);
    }

    private static int pickUnit() {
        return pick(0, 20) == 0 ? pick(-1, 1) * p : pick(1, p - 1);
    }

    private static int pickExponent() {
        switch (pick(0, 3)) {
            case 0: return pick(-1, 12);
            case 1: return pick(1, p);
            case 2: return pick(999990, 1000002);
            default: return pick(0, 1000000);
        }
    }

    private static int pickOrder() {
        return pick(0, 3) == 0 ? pick(-1, p) : orders[pick(1, p - 1)];
    }

    private static void changePrime() {
        DlogSolver same = solver();
        int before = p;
        int next = pick(0, 3) == 0 ? pick(-1, 2045) : primes.get(pick(0, primes.size() - 1));
        boolean allowed = primes.contains(next);
        due(same.prime(next), allowed ? before : BAD_ARG, "prime", next);
        keepWith(same, allowed ? next : before);
    }

    private static void stepPrime() {
        DlogSolver same = solver();
        int place = primes.indexOf(p) + 1;
        boolean last = place == primes.size();
        due(same.nextPrime(), last ? NONE : primes.get(place), "nextPrime");
        keepWith(same, last ? p : primes.get(place));
    }

    private static void keepWith(DlogSolver same, int prime) {
        int used = calls;
        take(prime);
        solver = same;
        calls = used;
    }

    private static void mixedCall() {
        switch (pick(0, 59)) {
            case 0: changePrime(); break;
            case 1: stepPrime(); break;
            case 2: due(solver().generator(), firstOfOrder(p - 1), "generator"); break;
            case 3: due(solver().generators(), countOfOrder(p - 1), "generators"); break;
            case 4: checkRoots(pickUnit(), pickExponent()); break;
            default: mixedQuickCall();
        }
        due(solver().modulus(), p, "modulus");
    }

    private static void mixedQuickCall() {
        switch (pick(0, 4)) {
            case 0: checkUnit(pickUnit()); break;
            case 1: checkOrder(pickOrder()); break;
            case 2: checkPair(pickUnit(), pickUnit()); break;
            case 3: checkPower(pickUnit(), pickExponent()); break;
            default:
                int m = pick(0, 61);
                checkLogWith(pickUnit(), pickUnit(), pick(0, 9) == 0 ? pick(-1, 61) : pick(0, m), m);
        }
    }

    private static void longMixedRuns() {
        take(3);
        for (int i = 0; i < 20000; i++) {
            mixedCall();
        }
    }

    public static void main(String[] args) {
        primes = oddPrimes(2039);
        everyPrimeArgument();
        everyNextPrime();
        everyPrimeWithAllItsUnits();
        smallPrimesWithAllArguments();
        longMixedRuns();
        System.out.println(wrong == 0 ? "all answers are as due" : wrong + " answers are not as due");
        if (wrong != 0) {
            System.exit(1);
        }
    }
}
