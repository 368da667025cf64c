import java.util.ArrayList;
import java.util.List;

/**
 * One test for each sentence of the document that names a boundary case: the last value allowed
 * and the first one refused on each side, the smallest and the greatest P, the smallest and the
 * greatest int, what is tested first, and that a refused call changes nothing.
 */
public final class BoundariesTest {
    private static final int BAD_ARG = -1;
    private static final int NONE = -4;
    private static final int MIN = Integer.MIN_VALUE;
    private static final int MAX = Integer.MAX_VALUE;
    private static final int LEAST_P = 3;
    private static final int GREATEST_P = 2039;
    private static final int GREATEST_EXPONENT = 1000000;

    private static final int[] EDGE_PRIMES = {LEAST_P, 5, 13, 2029, GREATEST_P};
    private static final List<Integer> PRIMES = primesFromThree();

    private static int wrong = 0;
    private static int wrongBefore = 0;

    private interface Question {
        int askOf(DlogSolver x);
    }

    private record Call(String text, Question question) {
        int on(DlogSolver x) {
            return question.askOf(x);
        }
    }

    // ---- the calls, each with its text

    private static Call prime(int p) {
        return new Call("prime(" + p + ")", x -> x.prime(p));
    }

    private static Call modulus() {
        return new Call("modulus()", x -> x.modulus());
    }

    private static Call nextPrime() {
        return new Call("nextPrime()", x -> x.nextPrime());
    }

    private static Call power(int g, int e) {
        return new Call("power(" + g + ", " + e + ")", x -> x.power(g, e));
    }

    private static Call inverse(int g) {
        return new Call("inverse(" + g + ")", x -> x.inverse(g));
    }

    private static Call order(int g) {
        return new Call("order(" + g + ")", x -> x.order(g));
    }

    private static Call generator() {
        return new Call("generator()", x -> x.generator());
    }

    private static Call generators() {
        return new Call("generators()", x -> x.generators());
    }

    private static Call log(int g, int h) {
        return new Call("log(" + g + ", " + h + ")", x -> x.log(g, h));
    }

    private static Call root(int h, int k) {
        return new Call("root(" + h + ", " + k + ")", x -> x.root(h, k));
    }

    private static Call roots(int h, int k) {
        return new Call("roots(" + h + ", " + k + ")", x -> x.roots(h, k));
    }

    private static Call logWith(int g, int h, int r, int m) {
        return new Call("logWith(" + g + ", " + h + ", " + r + ", " + m + ")", x -> x.logWith(g, h, r, m));
    }

    private static Call common(int g, int h) {
        return new Call("common(" + g + ", " + h + ")", x -> x.common(g, h));
    }

    private static Call unitOfOrder(int d) {
        return new Call("unitOfOrder(" + d + ")", x -> x.unitOfOrder(d));
    }

    private static Call unitsOfOrder(int d) {
        return new Call("unitsOfOrder(" + d + ")", x -> x.unitsOfOrder(d));
    }

    // ---- what is checked of a call

    private static void complain(String text) {
        wrong++;
        if (wrong - wrongBefore <= 10) {
            System.out.println("  " + text);
        }
    }

    private static void same(String what, int got, int want) {
        if (got != want) {
            complain(what + " answered " + got + ", due is " + want);
        }
    }

    private static DlogSolver at(int p) {
        DlogSolver x = new DlogSolver();
        x.prime(p);
        return x;
    }

    private static void due(DlogSolver x, Call call, int want) {
        same(call.text(), call.on(x), want);
    }

    private static void due(int p, Call call, int want) {
        same("P = " + p + ": " + call.text(), call.on(at(p)), want);
    }

    private static void refused(int p, Call call, int code) {
        dueWithoutChange(p, call, code);
    }

    /** The answer comes twice, and the object is then like one that was never asked. */
    private static void dueWithoutChange(int p, Call call, int want) {
        DlogSolver x = at(p);
        same("P = " + p + ": " + call.text(), call.on(x), want);
        same("P = " + p + ": " + call.text() + " once more", call.on(x), want);
        int modulus = x.modulus();
        same("P = " + p + ": modulus() after " + call.text(), modulus, p);
        if (modulus != p) {
            // With a huge P that was let in by mistake, the calls below would take hours.
            return;
        }
        DlogSolver untouched = at(p);
        for (Call next : callsOfEachKind(p)) {
            same("P = " + p + ": " + next.text() + " after " + call.text(), next.on(x), next.on(untouched));
        }
    }

    private static List<Call> callsOfEachKind(int p) {
        int last = p - 1;
        return List.of(modulus(), power(2, 5), inverse(2), order(last), generator(), generators(), log(2, last),
            root(last, 3), roots(1, 6), logWith(2, 1, 1, 3), common(2, last), unitOfOrder(2), unitsOfOrder(last),
            prime(p), modulus(), nextPrime(), modulus(), prime(p));
    }

    // ---- what the definitions say, worked out the slow way

    private static List<Integer> primesFromThree() {
        List<Integer> found = new ArrayList<>();
        for (int n = LEAST_P; n <= GREATEST_P; n++) {
            boolean divided = false;
            for (int d = 2; d * d <= n; d++) {
                divided |= n % d == 0;
            }
            if (!divided) {
                found.add(n);
            }
        }
        return found;
    }

    private static int slowOrder(int p, int g) {
        int value = g;
        int x = 1;
        while (value != 1) {
            value = value * g % p;
            x++;
        }
        return x;
    }

    private static int slowGenerator(int p) {
        int g = 1;
        while (slowOrder(p, g) != p - 1) {
            g++;
        }
        return g;
    }

    private static int slowInverse(int p, int g) {
        int y = 1;
        while (g * y % p != 1) {
            y++;
        }
        return y;
    }

    /** Numbers outside 1 to P - 1, the first ones on both sides, and ones that a cut to fewer bits or a rest by P would let in. */
    private static int[] notUnits(int p) {
        return new int[] {0, p, -1, p + 1, 1 - p, -p, 2 * p - 1, 256 * p + 1, 65537, 65536 + p - 1, MIN, MIN + 1, MAX, MAX - 1};
    }

    // ---- What it is

    private static void useForAtMost512Calls() {
        for (int p : EDGE_PRIMES) {
            for (Call last : callsOfEachKind(p)) {
                DlogSolver x = at(p);
                for (int calls = 2; calls <= 511; calls++) {
                    x.power(2, calls);
                }
                due(x, last, last.on(at(p)));
            }
        }
    }

    // ---- Terms

    private static void thereIsAPrimeFrom3To2039() {
        for (int p : PRIMES) {
            DlogSolver x = new DlogSolver();
            due(x, prime(p), 3);
            due(x, modulus(), p);
        }
        same("how many primes there are from 3 to 2039", PRIMES.size(), 308);
        for (int p : new int[] {2, 2040, 2053}) {
            refused(LEAST_P, prime(p), BAD_ARG);
            refused(GREATEST_P, prime(p), BAD_ARG);
        }
    }

    private static void oneIsTheFirstUnit() {
        for (int p : PRIMES) {
            for (Call call : List.of(power(1, 7), inverse(1), order(1), root(1, 7), roots(1, p), common(1, 1))) {
                due(p, call, 1);
            }
            due(p, log(1, 1), 0);
            due(p, logWith(1, 1, 0, 1), 0);
        }
    }

    private static void zeroIsNotAUnit() {
        for (int p : EDGE_PRIMES) {
            for (Call call : callsWithTheUnit(0)) {
                refused(p, call, BAD_ARG);
            }
        }
    }

    private static void theLastUnitIsPLessOne() {
        for (int p : PRIMES) {
            int last = p - 1;
            due(p, power(last, 7), last);
            due(p, inverse(last), last);
            due(p, order(last), 2);
            due(p, log(last, last), 1);
            due(p, root(last, 1), last);
            due(p, roots(last, 1), 1);
            due(p, logWith(last, last, 1, 2), 1);
            due(p, common(last, last), 2);
        }
    }

    private static void pIsNotAUnit() {
        for (int p : EDGE_PRIMES) {
            for (Call call : callsWithTheUnit(p)) {
                refused(p, call, BAD_ARG);
            }
        }
    }

    /** The units go with P: the last one of a greater prime is refused at once after a step down. */
    private static void theUnitsAreThoseOfTheNewP() {
        DlogSolver x = at(GREATEST_P);
        due(x, order(2038), 2);
        x.prime(5);
        for (Call call : callsWithTheUnit(5)) {
            due(x, call, BAD_ARG);
        }
        due(x, order(4), 2);
        x.nextPrime();
        due(x, order(6), 2);
        due(x, order(7), BAD_ARG);
    }

    private static List<Call> callsWithTheUnit(int u) {
        return List.of(power(u, 0), power(u, 1), inverse(u), order(u), log(u, 1), log(1, u), log(u, u), root(u, 1),
            roots(u, 1), logWith(u, 1, 0, 1), logWith(1, u, 0, 1), logWith(u, u, 0, 1), common(u, 1), common(1, u),
            common(u, u));
    }

    private static void aPowerWithXZeroIsOne() {
        for (int p : EDGE_PRIMES) {
            for (int g = 1; g < p; g++) {
                due(p, power(g, 0), 1);
                due(p, log(g, 1), 0);
                due(p, logWith(g, 1, 0, 60), 0);
            }
        }
    }

    private static void theOrderIsAtLeastOne() {
        for (int p : PRIMES) {
            due(p, order(1), 1);
        }
    }

    private static void aGeneratorHasOrderPLessOne() {
        for (int p : PRIMES) {
            DlogSolver x = at(p);
            int g = x.generator();
            same("P = " + p + ": the order of generator()", slowOrder(p, g), p - 1);
            due(x, order(g), p - 1);
            due(x, unitOfOrder(p - 1), g);
        }
    }

    private static void noProductGoesBeyondALong() {
        for (int p : PRIMES) {
            due(p, power(p - 1, GREATEST_EXPONENT), 1);
            due(p, power(p - 1, GREATEST_EXPONENT - 1), p - 1);
        }
        due(GREATEST_P, power(7, GREATEST_EXPONENT), slowPower(GREATEST_P, 7, GREATEST_EXPONENT));
        due(GREATEST_P, power(2037, GREATEST_EXPONENT - 1), slowPower(GREATEST_P, 2037, GREATEST_EXPONENT - 1));
    }

    private static int slowPower(int p, int g, int x) {
        int value = 1;
        for (int i = 0; i < x; i++) {
            value = value * g % p;
        }
        return value;
    }

    /** Each call with all pairs, or fours, of numbers at the edges of all ranges: no throw, and BAD_ARG just where it is due. */
    private static void noCallEverThrows() {
        for (int p : new int[] {LEAST_P, 61, GREATEST_P}) {
            int[] edges = {MIN, MIN + 1, -p, -1, 0, 1, 2, p - 1, p, 59, 60, 61, 999999, 1000000, 1000001, MAX - 1, MAX};
            for (int a : edges) {
                argument(p, a);
                for (int b : edges) {
                    twoArguments(p, a, b);
                    for (int c : edges) {
                        for (int d : edges) {
                            boolean good = isUnit(p, a) && isUnit(p, b) && d >= 1 && d <= 60 && c >= 0 && c <= d - 1;
                            refusedUnless(good, p, logWith(a, b, c, d));
                        }
                    }
                }
            }
        }
    }

    private static void argument(int p, int a) {
        refusedUnless(isUnit(p, a), p, inverse(a));
        refusedUnless(isUnit(p, a), p, order(a));
        refusedUnless(PRIMES.contains(a), p, prime(a));
        refusedUnless(a >= 1, p, unitOfOrder(a));
        refusedUnless(true, p, unitsOfOrder(a));
    }

    private static void twoArguments(int p, int a, int b) {
        boolean rootQuestion = isUnit(p, a) && b >= 1 && b <= GREATEST_EXPONENT;
        refusedUnless(isUnit(p, a) && b >= 0 && b <= GREATEST_EXPONENT, p, power(a, b));
        refusedUnless(isUnit(p, a) && isUnit(p, b), p, log(a, b));
        refusedUnless(isUnit(p, a) && isUnit(p, b), p, common(a, b));
        refusedUnless(rootQuestion, p, root(a, b));
        refusedUnless(rootQuestion, p, roots(a, b));
    }

    private static boolean isUnit(int p, int g) {
        return g >= 1 && g <= p - 1;
    }

    private static void refusedUnless(boolean good, int p, Call call) {
        DlogSolver x = at(p);
        int got = call.on(x);
        boolean answered = got >= 0 || got == NONE;
        if (good ? !answered : got != BAD_ARG) {
            complain("P = " + p + ": " + call.text() + " answered " + got + ", due is " + (good ? "an answer" : "-1"));
        }
        if (!good) {
            same("P = " + p + ": modulus() after " + call.text(), x.modulus(), p);
        }
    }

    private static void aRefusedCallChangesNothing() {
        for (int p : EDGE_PRIMES) {
            List<Call> calls = new ArrayList<>(callsWithTheUnit(p));
            calls.addAll(callsWithTheUnit(-1));
            calls.addAll(List.of(prime(2), prime(2040), power(1, -1), root(1, 0), roots(1, 0), logWith(1, 1, 0, 0),
                logWith(1, 1, 1, 1), unitOfOrder(0)));
            for (Call call : calls) {
                refused(p, call, BAD_ARG);
            }
            for (Call call : List.of(log(1, 2), root(p - 1, 2 * (p - 1)), logWith(1, 2, 0, 1), unitOfOrder(p))) {
                refused(p, call, NONE);
            }
        }
        refused(GREATEST_P, nextPrime(), NONE);
    }

    private static void manyRefusedCallsChangeNothing() {
        DlogSolver x = at(13);
        for (int i = 0; i < 100; i++) {
            x.prime(2040 + i);
            x.power(0, i);
            x.root(13 + i, 1);
            x.unitOfOrder(-i);
            due(x, modulus(), 13);
        }
    }

    private static void theConstants() {
        same("BAD_ARG", DlogSolver.BAD_ARG, -1);
        same("NONE", DlogSolver.NONE, -4);
    }

    // ---- Promise 1

    private static void aNewObjectHasPThree() {
        due(new DlogSolver(), modulus(), 3);
        due(new DlogSolver(), prime(7), 3);
        due(new DlogSolver(), nextPrime(), 5);
        due(new DlogSolver(), order(2), 2);
        due(new DlogSolver(), order(3), BAD_ARG);
        DlogSolver used = at(GREATEST_P);
        due(new DlogSolver(), modulus(), 3);
        due(used, modulus(), GREATEST_P);
    }

    // ---- Promise 2

    private static void primeSetsP() {
        DlogSolver x = new DlogSolver();
        for (int p : new int[] {2039, 3, 2029, 5, 5, 2039, 2039, 3, 3}) {
            x.prime(p);
            due(x, modulus(), p);
        }
    }

    private static void primeRefusesWhatIsTooSmall() {
        for (int p : EDGE_PRIMES) {
            for (int small : new int[] {2, 1, 0, -1, -2, -3, -5, -2039, MIN, MIN + 1}) {
                refused(p, prime(small), BAD_ARG);
            }
        }
    }

    private static void primeRefusesWhatIsTooLarge() {
        // Primes among them: 2053, 2063, 65537, MAX. The sums with 3 are primes again after a cut to fewer bits.
        for (int p : EDGE_PRIMES) {
            for (int large : new int[] {2040, 2041, 2053, 2063, 65537, 65536 + 3, (1 << 20) + 3, MIN + 3, MAX - 1, MAX}) {
                refused(p, prime(large), BAD_ARG);
            }
        }
    }

    private static void primeRefusesWhatIsNotAPrime() {
        for (int n = LEAST_P; n <= GREATEST_P; n++) {
            if (!PRIMES.contains(n)) {
                DlogSolver x = at(13);
                due(x, prime(n), BAD_ARG);
                due(x, modulus(), 13);
            }
        }
        // Just beside the ends, squares of primes, a product of two close primes, and false primes of Fermat's test.
        for (int n : new int[] {4, 6, 2038, 2037, 9, 25, 1849, 2021, 341, 561, 1105, 1729}) {
            refused(LEAST_P, prime(n), BAD_ARG);
            refused(GREATEST_P, prime(n), BAD_ARG);
        }
    }

    private static void primeAnswersThePrimeBefore() {
        DlogSolver x = new DlogSolver();
        due(x, prime(3), 3);
        due(x, prime(2039), 3);
        due(x, prime(2039), 2039);
        due(x, nextPrime(), NONE);
        due(x, prime(5), 2039);
        due(x, nextPrime(), 7);
        due(x, prime(4), BAD_ARG);
        due(x, prime(3), 7);
        due(x, prime(11), 3);
    }

    // ---- Promise 3

    private static void modulusIsP() {
        DlogSolver x = new DlogSolver();
        due(x, modulus(), 3);
        due(x, modulus(), 3);
        x.prime(2039);
        due(x, modulus(), 2039);
        due(x, modulus(), 2039);
        x.prime(3);
        x.nextPrime();
        due(x, modulus(), 5);
    }

    // ---- Promise 4

    private static void nextPrimeIsTheLeastGreaterPrime() {
        // One object goes through all of them; asked for its modulus too, it would be past its 512 calls.
        DlogSolver walker = new DlogSolver();
        for (int i = 1; i < PRIMES.size(); i++) {
            due(walker, nextPrime(), PRIMES.get(i));
            DlogSolver x = at(PRIMES.get(i - 1));
            due(x, nextPrime(), PRIMES.get(i));
            due(x, modulus(), PRIMES.get(i));
        }
        due(1327, nextPrime(), 1361);
        due(2027, nextPrime(), 2029);
        due(2029, nextPrime(), 2039);
    }

    private static void nextPrimeIsNoneAfterTheLast() {
        refused(GREATEST_P, nextPrime(), NONE);
        DlogSolver x = at(2029);
        due(x, nextPrime(), 2039);
        due(x, nextPrime(), NONE);
        due(x, nextPrime(), NONE);
        due(x, modulus(), 2039);
        due(x, order(2038), 2);
        due(x, prime(2029), 2039);
        due(x, nextPrime(), 2039);
    }

    // ---- Promise 5

    private static void powerRefusesWhatIsNotAUnit() {
        for (int p : EDGE_PRIMES) {
            for (int g : notUnits(p)) {
                refused(p, power(g, 0), BAD_ARG);
                refused(p, power(g, 1), BAD_ARG);
                refused(p, power(g, GREATEST_EXPONENT), BAD_ARG);
                refused(p, power(g, GREATEST_EXPONENT + 1), BAD_ARG);
            }
        }
    }

    private static void powerTakesXFromZero() {
        for (int p : EDGE_PRIMES) {
            for (int g : new int[] {1, 2, p - 1}) {
                due(p, power(g, 0), 1);
                due(p, power(g, 1), g);
                for (int x : new int[] {-1, -2, -GREATEST_EXPONENT, MIN, MIN + 1}) {
                    refused(p, power(g, x), BAD_ARG);
                }
            }
        }
    }

    private static void powerTakesXToAMillion() {
        due(3, power(2, 999999), 2);
        due(3, power(2, 1000000), 1);
        due(2039, power(2, 999999), slowPower(2039, 2, 999999));
        due(2039, power(2, 1000000), slowPower(2039, 2, 1000000));
        for (int p : EDGE_PRIMES) {
            for (int g : new int[] {1, 2, p - 1}) {
                for (int x : new int[] {1000001, 1000002, 1 << 20, (1 << 20) + 1, 1 << 30, MAX - 1, MAX}) {
                    refused(p, power(g, x), BAD_ARG);
                }
            }
        }
    }

    private static void powerGoesRoundAtTheOrder() {
        for (int p : PRIMES) {
            int g = slowGenerator(p);
            due(p, power(g, p - 2), slowInverse(p, g));
            due(p, power(g, p - 1), 1);
            due(p, power(g, p), g);
        }
    }

    // ---- Promise 6

    private static void inverseOfTheFirstAndLastUnits() {
        for (int p : PRIMES) {
            due(p, inverse(1), 1);
            due(p, inverse(2), (p + 1) / 2);
            due(p, inverse((p + 1) / 2), 2);
            due(p, inverse(p - 2), (p - 1) / 2);
            due(p, inverse(p - 1), p - 1);
        }
    }

    private static void inverseRefusesWhatIsNotAUnit() {
        for (int p : EDGE_PRIMES) {
            for (int g : notUnits(p)) {
                refused(p, inverse(g), BAD_ARG);
            }
        }
    }

    // ---- Promise 7

    private static void orderOfTheFirstAndLastUnits() {
        for (int p : PRIMES) {
            due(p, order(1), 1);
            due(p, order(2), slowOrder(p, 2));
            due(p, order(p - 2), slowOrder(p, p - 2));
            due(p, order(p - 1), 2);
            due(p, order(slowGenerator(p)), p - 1);
        }
    }

    private static void orderRefusesWhatIsNotAUnit() {
        for (int p : EDGE_PRIMES) {
            for (int g : notUnits(p)) {
                refused(p, order(g), BAD_ARG);
            }
        }
    }

    // ---- Promises 8 and 9

    private static void generatorIsTheLeast() {
        due(LEAST_P, generator(), 2);
        due(GREATEST_P, generator(), 7);
        for (int p : PRIMES) {
            due(p, generator(), slowGenerator(p));
        }
    }

    private static void generatorsAreCounted() {
        due(LEAST_P, generators(), 1);
        due(5, generators(), 2);
        due(GREATEST_P, generators(), 1018);
        for (int p : PRIMES) {
            int count = 0;
            for (int g = 1; g < p; g++) {
                count += slowOrder(p, g) == p - 1 ? 1 : 0;
            }
            due(p, generators(), count);
        }
    }

    // ---- Promise 10

    private static void logIsTheLeastFromZero() {
        for (int p : PRIMES) {
            int g = slowGenerator(p);
            due(p, log(g, 1), 0);
            due(p, log(g, g), 1);
            due(p, log(g, p - 1), (p - 1) / 2);
            due(p, log(g, slowInverse(p, g)), p - 2);
            due(p, log(1, 1), 0);
            due(p, log(p - 1, 1), 0);
            due(p, log(p - 1, p - 1), 1);
        }
    }

    private static void logIsNoneIfThereIsNone() {
        for (int p : EDGE_PRIMES) {
            refused(p, log(1, 2), NONE);
            refused(p, log(1, p - 1), NONE);
        }
        for (int p : new int[] {5, 13, 2029, 2039}) {
            refused(p, log(p - 1, 2), NONE);
            refused(p, log(p - 1, p - 2), NONE);
            refused(p, log(4, slowGenerator(p)), NONE);
        }
    }

    private static void logTestsItsUnitsFirst() {
        for (int p : EDGE_PRIMES) {
            for (int bad : notUnits(p)) {
                // Each would be NONE by the search alone, or an answer if only the other one were looked at.
                for (Call call : List.of(log(bad, 1), log(bad, 2), log(1, bad), log(2, bad), log(p - 1, bad), log(bad, bad))) {
                    refused(p, call, BAD_ARG);
                }
            }
        }
    }

    // ---- Promise 11

    private static void rootIsTheLeast() {
        for (int p : PRIMES) {
            due(p, root(1, 1), 1);
            due(p, root(p - 1, 1), p - 1);
            due(p, root(1, 2), 1);
            due(p, root(1, p - 1), 1);
            due(p, root(2, p - 2), (p + 1) / 2);
            due(p, root(2, p), 2);
            due(p, root(p - 1, (p - 1) / 2), leastNonResidue(p));
        }
    }

    /** By Euler, the units with y to the (P - 1) / 2 = P - 1 are those that are no squares. */
    private static int leastNonResidue(int p) {
        boolean[] square = new boolean[p];
        for (int y = 1; y < p; y++) {
            square[y * y % p] = true;
        }
        int least = 1;
        while (square[least]) {
            least++;
        }
        return least;
    }

    private static void rootIsNoneIfThereIsNone() {
        for (int p : EDGE_PRIMES) {
            refused(p, root(2, p - 1), NONE);
            refused(p, root(p - 1, p - 1), NONE);
            refused(p, root(leastNonResidue(p), 2), NONE);
            refused(p, root(leastNonResidue(p), GREATEST_EXPONENT), NONE);
        }
    }

    private static void rootTestsItsUnitFirst() {
        for (int p : EDGE_PRIMES) {
            for (int bad : notUnits(p)) {
                for (int k : new int[] {1, 2, p - 1, GREATEST_EXPONENT, 0, GREATEST_EXPONENT + 1, MIN, MAX}) {
                    refused(p, root(bad, k), BAD_ARG);
                }
            }
        }
    }

    private static void rootTakesKFromOne() {
        for (int p : EDGE_PRIMES) {
            // 1 would be its own root and the non-residue would have none, whatever is made of the exponent.
            for (int h : new int[] {1, leastNonResidue(p), p - 1}) {
                due(p, root(h, 1), h);
                for (int k : new int[] {0, -1, -2, 1 - p, -GREATEST_EXPONENT, MIN, MIN + 1}) {
                    refused(p, root(h, k), BAD_ARG);
                }
            }
        }
    }

    private static void rootTakesKToAMillion() {
        for (int p : EDGE_PRIMES) {
            due(p, root(1, 999999), 1);
            due(p, root(1, 1000000), 1);
            for (int h : new int[] {1, leastNonResidue(p), p - 1}) {
                for (int k : new int[] {1000001, 1000002, 1 << 20, (1 << 20) + 1, 1 << 30, MAX - 1, MAX}) {
                    refused(p, root(h, k), BAD_ARG);
                }
            }
        }
        due(3, root(2, 999999), 2);
        due(2039, root(slowPower(2039, 2, 999999), 999999), 2);
        due(2039, root(slowPower(2039, 2, 1000000), 1000000), 2);
    }

    // ---- Promise 12

    private static void rootsAreCounted() {
        for (int p : PRIMES) {
            due(p, roots(1, 1), 1);
            due(p, roots(p - 1, 1), 1);
            due(p, roots(1, 2), 2);
            due(p, roots(1, p - 1), p - 1);
            due(p, roots(1, (p - 1) / 2), (p - 1) / 2);
            due(p, roots(p - 1, (p - 1) / 2), (p - 1) / 2);
        }
        due(3, roots(1, 1000000), 2);
        due(3, roots(2, 999999), 1);
        due(2039, roots(1, 1000000), 2);
        due(2039, roots(1, 999999), 1);
    }

    private static void rootsAreNoughtWhereRootIsNone() {
        for (int p : EDGE_PRIMES) {
            dueWithoutChange(p, roots(2, p - 1), 0);
            dueWithoutChange(p, roots(p - 1, p - 1), 0);
            dueWithoutChange(p, roots(leastNonResidue(p), 2), 0);
            dueWithoutChange(p, roots(leastNonResidue(p), GREATEST_EXPONENT), 0);
        }
    }

    private static void rootsRefuseAWrongUnitAsRootDoes() {
        for (int p : EDGE_PRIMES) {
            for (int bad : notUnits(p)) {
                for (int k : new int[] {1, 2, p - 1, GREATEST_EXPONENT, 0, GREATEST_EXPONENT + 1, MIN, MAX}) {
                    refused(p, roots(bad, k), BAD_ARG);
                }
            }
        }
    }

    private static void rootsRefuseAWrongKAsRootDoes() {
        for (int p : EDGE_PRIMES) {
            for (int h : new int[] {1, leastNonResidue(p), p - 1}) {
                for (int k : new int[] {0, -1, -2, 1 - p, MIN, MIN + 1, 1000001, 1000002, (1 << 20) + 1, 1 << 30, MAX}) {
                    refused(p, roots(h, k), BAD_ARG);
                }
            }
        }
    }

    // ---- Promise 13

    private static void logWithIsTheLeastFromZero() {
        for (int p : PRIMES) {
            int g = slowGenerator(p);
            due(p, logWith(g, 1, 0, 1), 0);
            due(p, logWith(g, 1, 0, 60), 0);
            due(p, logWith(g, g, 1, 60), 1);
            due(p, logWith(g, slowInverse(p, g), 0, 1), p - 2);
            // Going round once more: after 0 the next exponent with the power 1 is P - 1.
            due(p, logWith(g, 1, (p - 1) % 59, 59), (p - 1) % 59 == 0 ? 0 : p - 1);
        }
        due(3, logWith(1, 1, 59, 60), 59);
        due(3, logWith(2, 2, 58, 59), 117);
    }

    /** The greatest answer of all: one less than P - 1 times 59, which have no common factor. */
    private static void logWithGoesAsFarAsItMust() {
        due(2039, logWith(7, slowInverse(2039, 7), 58, 59), 2038 * 59 - 1);
        due(2039, logWith(7, 1, 58, 59), 71330);
        due(2039, logWith(7, 7, 59, 60), 59 + 60 * stepsToReach(2039, 7, 7, 59, 60));
    }

    private static int stepsToReach(int p, int g, int h, int r, int m) {
        int steps = 0;
        while (slowPower(p, g, r + steps * m) != h) {
            steps++;
        }
        return steps;
    }

    private static void logWithIsNoneIfThereIsNone() {
        for (int p : EDGE_PRIMES) {
            int g = slowGenerator(p);
            refused(p, logWith(1, 2, 0, 1), NONE);
            refused(p, logWith(1, p - 1, 59, 60), NONE);
            // P - 1 is even, so that an exponent of 1 is even and one of a generator is odd.
            refused(p, logWith(g, 1, 1, 2), NONE);
            refused(p, logWith(g, g, 0, 2), NONE);
            refused(p, logWith(g, 1, 59, 60), NONE);
            refused(p, logWith(g, g, 58, 60), NONE);
        }
    }

    private static void logWithTestsItsUnitsFirst() {
        for (int p : EDGE_PRIMES) {
            for (int bad : notUnits(p)) {
                for (Call call : List.of(logWith(bad, 1, 0, 1), logWith(bad, 2, 0, 1), logWith(bad, 1, 59, 60),
                        logWith(1, bad, 0, 1), logWith(2, bad, 0, 60), logWith(bad, bad, 0, 1), logWith(bad, bad, 1, 0))) {
                    refused(p, call, BAD_ARG);
                }
            }
        }
    }

    private static void logWithTakesMFromOne() {
        for (int p : EDGE_PRIMES) {
            due(p, logWith(1, 1, 0, 1), 0);
            for (int m : new int[] {0, -1, -2, -60, -256 + 1, MIN, MIN + 1}) {
                refused(p, logWith(1, 1, 0, m), BAD_ARG);
                refused(p, logWith(1, 2, 0, m), BAD_ARG);
                refused(p, logWith(1, 1, m, m), BAD_ARG);
                refused(p, logWith(1, 1, m - 1, m), BAD_ARG);
                refused(p, logWith(1, 1, m + 1, m), BAD_ARG);
            }
        }
    }

    private static void logWithTakesMTo60() {
        for (int p : EDGE_PRIMES) {
            due(p, logWith(1, 1, 0, 60), 0);
            due(p, logWith(1, 1, 59, 60), 59);
            for (int m : new int[] {61, 62, 120, 256 + 1, 65536 + 1, MAX - 1, MAX}) {
                refused(p, logWith(1, 1, 0, m), BAD_ARG);
                refused(p, logWith(1, 2, 0, m), BAD_ARG);
                refused(p, logWith(1, 1, 59, m), BAD_ARG);
                refused(p, logWith(1, 1, m - 1, m), BAD_ARG);
                refused(p, logWith(1, 1, m, m), BAD_ARG);
            }
        }
    }

    private static void logWithTakesRFromZero() {
        for (int p : EDGE_PRIMES) {
            for (int m = 1; m <= 60; m++) {
                due(p, logWith(1, 1, 0, m), 0);
                refused(p, logWith(1, 1, -1, m), BAD_ARG);
                refused(p, logWith(1, 2, -1, m), BAD_ARG);
                refused(p, logWith(1, 1, -m, m), BAD_ARG);
                refused(p, logWith(1, 1, MIN, m), BAD_ARG);
                refused(p, logWith(1, 1, MIN + 1, m), BAD_ARG);
            }
        }
    }

    private static void logWithTakesRToMLessOne() {
        for (int p : EDGE_PRIMES) {
            for (int m = 1; m <= 60; m++) {
                due(p, logWith(1, 1, m - 1, m), m - 1);
                refused(p, logWith(1, 1, m, m), BAD_ARG);
                refused(p, logWith(1, 2, m, m), BAD_ARG);
                refused(p, logWith(1, 1, m + 1, m), BAD_ARG);
                refused(p, logWith(1, 1, MAX - 1, m), BAD_ARG);
                refused(p, logWith(1, 1, MAX, m), BAD_ARG);
            }
        }
    }

    // ---- Promise 14

    private static void commonAtLeastOneAtMostAll() {
        for (int p : PRIMES) {
            int g = slowGenerator(p);
            due(p, common(1, 1), 1);
            due(p, common(1, g), 1);
            due(p, common(g, 1), 1);
            due(p, common(g, g), p - 1);
            due(p, common(g, slowInverse(p, g)), p - 1);
            due(p, common(g, p - 1), 2);
            due(p, common(p - 1, g), 2);
        }
    }

    private static void commonHasExponentsOfTheirOwn() {
        // At 7 the powers of 2 are 1 2 4 and those of 6 are 1 6; those of 4 are 1 4 2, in another order.
        due(7, common(2, 6), 1);
        due(7, common(2, 4), 3);
        due(7, common(3, 2), 3);
        due(2039, common(2037, 2), slowCommon(2039, 2037, 2));
        due(2029, common(2, 2027), slowCommon(2029, 2, 2027));
    }

    private static int slowCommon(int p, int g, int h) {
        boolean[] ofG = new boolean[p];
        boolean[] ofH = new boolean[p];
        int count = 0;
        for (int x = 1; x < p; x++) {
            ofG[slowPower(p, g, x)] = true;
            ofH[slowPower(p, h, x)] = true;
        }
        for (int u = 1; u < p; u++) {
            count += ofG[u] && ofH[u] ? 1 : 0;
        }
        return count;
    }

    private static void commonRefusesWhatIsNotAUnit() {
        for (int p : EDGE_PRIMES) {
            for (int bad : notUnits(p)) {
                for (Call call : List.of(common(bad, 1), common(bad, p - 1), common(1, bad), common(p - 1, bad), common(bad, bad))) {
                    refused(p, call, BAD_ARG);
                }
            }
        }
    }

    // ---- Promise 15

    private static void unitOfOrderIsTheLeast() {
        for (int p : PRIMES) {
            due(p, unitOfOrder(1), 1);
            due(p, unitOfOrder(2), p - 1);
            due(p, unitOfOrder(p - 1), slowGenerator(p));
        }
        for (int p : EDGE_PRIMES) {
            for (int d = 1; d < p; d++) {
                if ((p - 1) % d == 0) {
                    due(p, unitOfOrder(d), leastOfOrder(p, d));
                }
            }
        }
    }

    private static int leastOfOrder(int p, int d) {
        int g = 1;
        while (slowOrder(p, g) != d) {
            g++;
        }
        return g;
    }

    private static void unitOfOrderIsNoneIfThereIsNone() {
        for (int p : EDGE_PRIMES) {
            for (int d : new int[] {p, p + 1, 2 * (p - 1), 65536 + 1, MAX - 1, MAX}) {
                refused(p, unitOfOrder(d), NONE);
            }
        }
        for (int p : new int[] {5, 13, 2029, 2039}) {
            refused(p, unitOfOrder(p - 2), NONE);
        }
        refused(5, unitOfOrder(3), NONE);
        refused(2039, unitOfOrder(3), NONE);
        refused(2039, unitOfOrder(4), NONE);
    }

    private static void unitOfOrderRefusesLessThanOne() {
        for (int p : EDGE_PRIMES) {
            for (int d : new int[] {0, -1, -2, 1 - p, -p, MIN, MIN + 1}) {
                refused(p, unitOfOrder(d), BAD_ARG);
            }
        }
    }

    // ---- Promise 16

    private static void unitsOfOrderAreCounted() {
        for (int p : EDGE_PRIMES) {
            int[] counts = new int[p];
            for (int g = 1; g < p; g++) {
                counts[slowOrder(p, g)]++;
            }
            for (int d = 1; d < p; d++) {
                due(p, unitsOfOrder(d), counts[d]);
            }
            for (int d : new int[] {p, p + 1, 2 * (p - 1), 65536 + 1, MAX - 1, MAX}) {
                dueWithoutChange(p, unitsOfOrder(d), 0);
            }
        }
        for (int p : PRIMES) {
            due(p, unitsOfOrder(1), 1);
            due(p, unitsOfOrder(2), 1);
        }
        due(2039, unitsOfOrder(2038), 1018);
    }

    private static void unitsOfOrderIsNoughtForLessThanOne() {
        for (int p : EDGE_PRIMES) {
            for (int d : new int[] {0, -1, -2, 1 - p, -p, MIN, MIN + 1}) {
                dueWithoutChange(p, unitsOfOrder(d), 0);
            }
        }
    }

    // ---- the run

    private static void sentence(String text, Runnable test) {
        wrongBefore = wrong;
        try {
            test.run();
        } catch (RuntimeException e) {
            complain("thrown: " + e);
        }
        if (wrong != wrongBefore) {
            System.out.println((wrong - wrongBefore) + " answers are not as due for: " + text);
        }
    }

    private static void sentencesOfTheTerms() {
        sentence("An object is used for at most 512 calls", BoundariesTest::useForAtMost512Calls);
        sentence("Terms: there is a prime P, 3 to 2039", BoundariesTest::thereIsAPrimeFrom3To2039);
        sentence("Terms: a unit is a number 1 to P - 1: 1 is one", BoundariesTest::oneIsTheFirstUnit);
        sentence("Terms: a unit is a number 1 to P - 1: 0 is none", BoundariesTest::zeroIsNotAUnit);
        sentence("Terms: a unit is a number 1 to P - 1: P - 1 is one", BoundariesTest::theLastUnitIsPLessOne);
        sentence("Terms: a unit is a number 1 to P - 1: P is none", BoundariesTest::pIsNotAUnit);
        sentence("Terms: a unit is a number 1 to P - 1, of the P at hand", BoundariesTest::theUnitsAreThoseOfTheNewP);
        sentence("Terms: a power is 1 for x = 0", BoundariesTest::aPowerWithXZeroIsOne);
        sentence("Terms: the order is the least x >= 1", BoundariesTest::theOrderIsAtLeastOne);
        sentence("Terms: a generator's order is P - 1", BoundariesTest::aGeneratorHasOrderPLessOne);
        sentence("Terms: no product goes beyond a long", BoundariesTest::noProductGoesBeyondALong);
        sentence("Terms: no call ever throws", BoundariesTest::noCallEverThrows);
        sentence("Terms: a refused call changes nothing", BoundariesTest::aRefusedCallChangesNothing);
        sentence("Terms: many refused calls change nothing", BoundariesTest::manyRefusedCallsChangeNothing);
        sentence("Terms: the constants", BoundariesTest::theConstants);
    }

    private static void sentencesOfPromises1To9() {
        sentence("Promise 1: P is 3", BoundariesTest::aNewObjectHasPThree);
        sentence("Promise 2: P becomes p", BoundariesTest::primeSetsP);
        sentence("Promise 2: BAD_ARG if p is below 3", BoundariesTest::primeRefusesWhatIsTooSmall);
        sentence("Promise 2: BAD_ARG if p is above 2039", BoundariesTest::primeRefusesWhatIsTooLarge);
        sentence("Promise 2: BAD_ARG if p is not a prime", BoundariesTest::primeRefusesWhatIsNotAPrime);
        sentence("Promise 2: otherwise the prime before", BoundariesTest::primeAnswersThePrimeBefore);
        sentence("Promise 3: P", BoundariesTest::modulusIsP);
        sentence("Promise 4: the least greater prime, the new P", BoundariesTest::nextPrimeIsTheLeastGreaterPrime);
        sentence("Promise 4: NONE if that is greater than 2039", BoundariesTest::nextPrimeIsNoneAfterTheLast);
        sentence("Promise 5: BAD_ARG if g is not a unit", BoundariesTest::powerRefusesWhatIsNotAUnit);
        sentence("Promise 5: x from 0", BoundariesTest::powerTakesXFromZero);
        sentence("Promise 5: x to 1000000", BoundariesTest::powerTakesXToAMillion);
        sentence("Promise 5: g to the x modulo P, round the order", BoundariesTest::powerGoesRoundAtTheOrder);
        sentence("Promise 6: the inverse, of the first and last units", BoundariesTest::inverseOfTheFirstAndLastUnits);
        sentence("Promise 6: BAD_ARG if g is not a unit", BoundariesTest::inverseRefusesWhatIsNotAUnit);
        sentence("Promise 7: the order, of the first and last units", BoundariesTest::orderOfTheFirstAndLastUnits);
        sentence("Promise 7: BAD_ARG if g is not a unit", BoundariesTest::orderRefusesWhatIsNotAUnit);
        sentence("Promise 8: the least generator", BoundariesTest::generatorIsTheLeast);
        sentence("Promise 9: how many generators there are", BoundariesTest::generatorsAreCounted);
    }

    private static void sentencesOfPromises10To13() {
        sentence("Promise 10: the least x >= 0", BoundariesTest::logIsTheLeastFromZero);
        sentence("Promise 10: NONE if there is none", BoundariesTest::logIsNoneIfThereIsNone);
        sentence("Promise 10: tested first: units", BoundariesTest::logTestsItsUnitsFirst);
        sentence("Promise 11: the least unit y", BoundariesTest::rootIsTheLeast);
        sentence("Promise 11: NONE if there is none", BoundariesTest::rootIsNoneIfThereIsNone);
        sentence("Promise 11: tested first: h a unit", BoundariesTest::rootTestsItsUnitFirst);
        sentence("Promise 11: tested first: k from 1", BoundariesTest::rootTakesKFromOne);
        sentence("Promise 11: tested first: k to 1000000", BoundariesTest::rootTakesKToAMillion);
        sentence("Promise 12: how many units y", BoundariesTest::rootsAreCounted);
        sentence("Promise 12: 0 where there is none", BoundariesTest::rootsAreNoughtWhereRootIsNone);
        sentence("Promise 12: BAD_ARG as for root, h", BoundariesTest::rootsRefuseAWrongUnitAsRootDoes);
        sentence("Promise 12: BAD_ARG as for root, k", BoundariesTest::rootsRefuseAWrongKAsRootDoes);
        sentence("Promise 13: the least x >= 0 with both", BoundariesTest::logWithIsTheLeastFromZero);
        sentence("Promise 13: the least x >= 0 with both, far out", BoundariesTest::logWithGoesAsFarAsItMust);
        sentence("Promise 13: NONE if there is none", BoundariesTest::logWithIsNoneIfThereIsNone);
        sentence("Promise 13: tested first: units", BoundariesTest::logWithTestsItsUnitsFirst);
        sentence("Promise 13: tested first: m from 1", BoundariesTest::logWithTakesMFromOne);
        sentence("Promise 13: tested first: m to 60", BoundariesTest::logWithTakesMTo60);
        sentence("Promise 13: tested first: r from 0", BoundariesTest::logWithTakesRFromZero);
        sentence("Promise 13: tested first: r to m - 1", BoundariesTest::logWithTakesRToMLessOne);
    }

    private static void sentencesOfPromises14To16() {
        sentence("Promise 14: the number of common powers", BoundariesTest::commonAtLeastOneAtMostAll);
        sentence("Promise 14: each with some exponent of its own", BoundariesTest::commonHasExponentsOfTheirOwn);
        sentence("Promise 14: BAD_ARG if g or h is not a unit", BoundariesTest::commonRefusesWhatIsNotAUnit);
        sentence("Promise 15: the least unit whose order is d", BoundariesTest::unitOfOrderIsTheLeast);
        sentence("Promise 15: NONE if there is none", BoundariesTest::unitOfOrderIsNoneIfThereIsNone);
        sentence("Promise 15: BAD_ARG if d < 1", BoundariesTest::unitOfOrderRefusesLessThanOne);
        sentence("Promise 16: how many units of order d", BoundariesTest::unitsOfOrderAreCounted);
        sentence("Promise 16: 0 if d < 1", BoundariesTest::unitsOfOrderIsNoughtForLessThanOne);
    }

    public static void main(String[] args) {
        sentencesOfTheTerms();
        sentencesOfPromises1To9();
        sentencesOfPromises10To13();
        sentencesOfPromises14To16();
        System.out.println(wrong == 0 ? "all answers are as due" : wrong + " answers are not as due");
        if (wrong != 0) {
            System.exit(1);
        }
    }
}
