/** Each promise by hand: ordinary inputs, the edges that the document names, wrong inputs. */
public final class PromisesTest {
    private static final int BAD_ARG = -1;
    private static final int NONE = -4;
    private static final int MIN = Integer.MIN_VALUE;
    private static final int MAX = Integer.MAX_VALUE;

    private static int wrong = 0;

    private static void due(String call, int got, int want) {
        if (got != want) {
            wrong++;
            System.out.println(call + " answered " + got + ", due is " + want);
        }
    }

    private static DlogSolver at(int p) {
        DlogSolver x = new DlogSolver();
        due("prime(" + p + ") on a new object", x.prime(p), 3);
        return x;
    }

    private static void newObject() {
        due("1: modulus() of a new object", new DlogSolver().modulus(), 3);
        DlogSolver first = new DlogSolver();
        DlogSolver second = new DlogSolver();
        first.prime(7);
        due("1: modulus() of another object", second.modulus(), 3);
        due("1: modulus() of the object itself", first.modulus(), 7);
    }

    private static void prime() {
        DlogSolver x = new DlogSolver();
        due("2: prime(3)", x.prime(3), 3);
        due("2: prime(101)", x.prime(101), 3);
        due("2: prime(101) again", x.prime(101), 101);
        due("2: prime(2039)", x.prime(2039), 101);
        due("2: prime(5)", x.prime(5), 2039);
        int[] refused = {MIN, -7, -3, -1, 0, 1, 2, 4, 9, 25, 49, 1681, 1849, 2021, 2037, 2038, 2040, 2041, 2053, 65537, MAX};
        for (int p : refused) {
            due("2: prime(" + p + ")", x.prime(p), BAD_ARG);
            due("2: modulus() after prime(" + p + ")", x.modulus(), 5);
        }
    }

    private static void modulus() {
        DlogSolver x = at(1009);
        due("3: modulus()", x.modulus(), 1009);
        due("3: modulus() again", x.modulus(), 1009);
    }

    private static void nextPrime() {
        DlogSolver x = new DlogSolver();
        int[] primes = {5, 7, 11, 13, 17, 19, 23, 29, 31, 37, 41, 43, 47, 53, 59, 61, 67, 71, 73, 79, 83, 89, 97, 101};
        for (int p : primes) {
            due("4: nextPrime()", x.nextPrime(), p);
            due("4: modulus() after nextPrime()", x.modulus(), p);
        }
        x.prime(1327);
        due("4: nextPrime() over a wide gap", x.nextPrime(), 1361);
        x.prime(2029);
        due("4: nextPrime() to the last", x.nextPrime(), 2039);
        due("4: nextPrime() beyond the last", x.nextPrime(), NONE);
        due("4: nextPrime() beyond the last again", x.nextPrime(), NONE);
        due("4: modulus() after NONE", x.modulus(), 2039);
    }

    private static void power() {
        DlogSolver x = at(13);
        due("5: power(2, 0)", x.power(2, 0), 1);
        due("5: power(2, 1)", x.power(2, 1), 2);
        due("5: power(2, 5)", x.power(2, 5), 6);
        due("5: power(2, 12)", x.power(2, 12), 1);
        due("5: power(12, 999999)", x.power(12, 999999), 12);
        due("5: power(2, 1000000)", x.power(2, 1000000), 3);
        due("5: power(1, 1000000)", x.power(1, 1000000), 1);
        due("5: power(2, 1000001)", x.power(2, 1000001), BAD_ARG);
        due("5: power(2, MAX)", x.power(2, MAX), BAD_ARG);
        due("5: power(2, -1)", x.power(2, -1), BAD_ARG);
        due("5: power(2, MIN)", x.power(2, MIN), BAD_ARG);
        int[] notUnits = {MIN, -1, 0, 13, 14, MAX};
        for (int g : notUnits) {
            due("5: power(" + g + ", 0)", x.power(g, 0), BAD_ARG);
            due("5: power(" + g + ", 3)", x.power(g, 3), BAD_ARG);
        }
        due("5: power(2038, 2) at 2039", at(2039).power(2038, 2), 1);
    }

    private static void inverse() {
        due("6: inverse(1) at 3", new DlogSolver().inverse(1), 1);
        due("6: inverse(2) at 3", new DlogSolver().inverse(2), 2);
        DlogSolver x = at(13);
        due("6: inverse(1)", x.inverse(1), 1);
        due("6: inverse(2)", x.inverse(2), 7);
        due("6: inverse(5)", x.inverse(5), 8);
        due("6: inverse(12)", x.inverse(12), 12);
        int[] notUnits = {MIN, -1, 0, 13, 15, MAX};
        for (int g : notUnits) {
            due("6: inverse(" + g + ")", x.inverse(g), BAD_ARG);
        }
    }

    private static void order() {
        DlogSolver x = at(13);
        int[] orders = {1, 12, 3, 6, 4, 12, 12, 4, 3, 6, 12, 2};
        for (int g = 1; g <= 12; g++) {
            due("7: order(" + g + ")", x.order(g), orders[g - 1]);
        }
        int[] notUnits = {MIN, -1, 0, 13, 14, MAX};
        for (int g : notUnits) {
            due("7: order(" + g + ")", x.order(g), BAD_ARG);
        }
    }

    private static void generators() {
        int[] primes = {3, 5, 7, 11, 13, 23, 41, 191, 409, 2039};
        int[] least = {2, 2, 3, 2, 2, 5, 6, 19, 21, 7};
        int[] counts = {1, 2, 2, 4, 4, 10, 16, 72, 128, 1018};
        for (int i = 0; i < primes.length; i++) {
            DlogSolver x = at(primes[i]);
            due("8: generator() at " + primes[i], x.generator(), least[i]);
            due("9: generators() at " + primes[i], x.generators(), counts[i]);
            due("8: modulus() afterwards", x.modulus(), primes[i]);
        }
    }

    private static void log() {
        DlogSolver x = at(13);
        due("10: log(2, 1)", x.log(2, 1), 0);
        due("10: log(2, 2)", x.log(2, 2), 1);
        due("10: log(2, 7)", x.log(2, 7), 11);
        due("10: log(3, 9)", x.log(3, 9), 2);
        due("10: log(3, 2)", x.log(3, 2), NONE);
        due("10: log(1, 1)", x.log(1, 1), 0);
        due("10: log(1, 12)", x.log(1, 12), NONE);
        int[] notUnits = {MIN, -1, 0, 13, 14, MAX};
        for (int bad : notUnits) {
            due("10: log(" + bad + ", 1)", x.log(bad, 1), BAD_ARG);
            due("10: log(2, " + bad + ")", x.log(2, bad), BAD_ARG);
            due("10: log(1, " + bad + ")", x.log(1, bad), BAD_ARG);
            due("10: log(" + bad + ", " + bad + ")", x.log(bad, bad), BAD_ARG);
        }
    }

    private static void roots() {
        DlogSolver x = at(13);
        rootAndRoots(x, 1, 1, 1, 1);
        rootAndRoots(x, 12, 1, 12, 1);
        rootAndRoots(x, 3, 2, 4, 2);
        rootAndRoots(x, 2, 2, NONE, 0);
        rootAndRoots(x, 8, 3, 2, 3);
        rootAndRoots(x, 2, 5, 6, 1);
        rootAndRoots(x, 12, 6, 2, 6);
        rootAndRoots(x, 1, 12, 1, 12);
        rootAndRoots(x, 2, 12, NONE, 0);
        rootAndRoots(x, 3, 1000000, 2, 4);
        rootAndRoots(x, 2, 999999, NONE, 0);
        rootAndRoots(x, 12, 999999, 4, 3);
        int[] notUnits = {MIN, -1, 0, 13, 14, MAX};
        for (int h : notUnits) {
            rootAndRoots(x, h, 1, BAD_ARG, BAD_ARG);
            rootAndRoots(x, h, 0, BAD_ARG, BAD_ARG);
        }
        int[] wrongExponents = {MIN, -1, 0, 1000001, MAX};
        for (int k : wrongExponents) {
            rootAndRoots(x, 1, k, BAD_ARG, BAD_ARG);
            rootAndRoots(x, 2, k, BAD_ARG, BAD_ARG);
        }
    }

    private static void rootAndRoots(DlogSolver x, int h, int k, int least, int count) {
        due("11: root(" + h + ", " + k + ")", x.root(h, k), least);
        due("12: roots(" + h + ", " + k + ")", x.roots(h, k), count);
    }

    private static void logWith() {
        DlogSolver x = at(13);
        due("13: logWith(2, 7, 0, 1)", x.logWith(2, 7, 0, 1), 11);
        due("13: logWith(2, 7, 1, 2)", x.logWith(2, 7, 1, 2), 11);
        due("13: logWith(2, 7, 0, 2)", x.logWith(2, 7, 0, 2), NONE);
        due("13: logWith(2, 1, 0, 60)", x.logWith(2, 1, 0, 60), 0);
        due("13: logWith(2, 1, 5, 7)", x.logWith(2, 1, 5, 7), 12);
        due("13: logWith(2, 1, 6, 7)", x.logWith(2, 1, 6, 7), 48);
        due("13: logWith(2, 1, 1, 11)", x.logWith(2, 1, 1, 11), 12);
        due("13: logWith(2, 1, 10, 11)", x.logWith(2, 1, 10, 11), 120);
        due("13: logWith(1, 1, 59, 60)", x.logWith(1, 1, 59, 60), 59);
        due("13: logWith(1, 2, 59, 60)", x.logWith(1, 2, 59, 60), NONE);
        due("13: logWith(2, 7, 59, 60)", x.logWith(2, 7, 59, 60), 59);
        due("13: logWith(7, 1, 58, 59) at 2039", at(2039).logWith(7, 1, 58, 59), 71330);
        due("13: logWith(7, 874, 58, 59) at 2039", at(2039).logWith(7, 874, 58, 59), 120241);
        int[] notUnits = {MIN, -1, 0, 13, 14, MAX};
        for (int bad : notUnits) {
            due("13: logWith(" + bad + ", 1, 0, 1)", x.logWith(bad, 1, 0, 1), BAD_ARG);
            due("13: logWith(1, " + bad + ", 0, 1)", x.logWith(1, bad, 0, 1), BAD_ARG);
        }
        int[] wrongModuli = {MIN, -60, -1, 0, 61, MAX};
        for (int m : wrongModuli) {
            due("13: logWith(2, 1, 0, " + m + ")", x.logWith(2, 1, 0, m), BAD_ARG);
            due("13: logWith(1, 2, -1, " + m + ")", x.logWith(1, 2, -1, m), BAD_ARG);
        }
        int[] wrongRests = {MIN, -1, 12, 13, MAX};
        for (int r : wrongRests) {
            due("13: logWith(2, 1, " + r + ", 12)", x.logWith(2, 1, r, 12), BAD_ARG);
            due("13: logWith(1, 2, " + r + ", 12)", x.logWith(1, 2, r, 12), BAD_ARG);
        }
    }

    private static void common() {
        DlogSolver x = at(13);
        due("14: common(1, 1)", x.common(1, 1), 1);
        due("14: common(1, 2)", x.common(1, 2), 1);
        due("14: common(2, 6)", x.common(2, 6), 12);
        due("14: common(2, 3)", x.common(2, 3), 3);
        due("14: common(4, 5)", x.common(4, 5), 2);
        due("14: common(5, 4)", x.common(5, 4), 2);
        due("14: common(3, 5)", x.common(3, 5), 1);
        due("14: common(4, 12)", x.common(4, 12), 2);
        int[] notUnits = {MIN, -1, 0, 13, 14, MAX};
        for (int bad : notUnits) {
            due("14: common(" + bad + ", 2)", x.common(bad, 2), BAD_ARG);
            due("14: common(2, " + bad + ")", x.common(2, bad), BAD_ARG);
            due("14: common(" + bad + ", " + bad + ")", x.common(bad, bad), BAD_ARG);
        }
    }

    private static void unitsOfOrder() {
        DlogSolver x = at(13);
        int[] least = {1, 12, 3, 5, NONE, 4, NONE, NONE, NONE, NONE, NONE, 2, NONE, NONE};
        int[] counts = {1, 1, 2, 2, 0, 2, 0, 0, 0, 0, 0, 4, 0, 0};
        for (int d = 1; d <= 14; d++) {
            due("15: unitOfOrder(" + d + ")", x.unitOfOrder(d), least[d - 1]);
            due("16: unitsOfOrder(" + d + ")", x.unitsOfOrder(d), counts[d - 1]);
        }
        due("15: unitOfOrder(24)", x.unitOfOrder(24), NONE);
        due("16: unitsOfOrder(24)", x.unitsOfOrder(24), 0);
        due("15: unitOfOrder(MAX)", x.unitOfOrder(MAX), NONE);
        due("16: unitsOfOrder(MAX)", x.unitsOfOrder(MAX), 0);
        int[] belowOne = {MIN, -12, -1, 0};
        for (int d : belowOne) {
            due("15: unitOfOrder(" + d + ")", x.unitOfOrder(d), BAD_ARG);
            due("16: unitsOfOrder(" + d + ")", x.unitsOfOrder(d), 0);
        }
    }

    public static void main(String[] args) {
        newObject();
        prime();
        modulus();
        nextPrime();
        power();
        inverse();
        order();
        generators();
        log();
        roots();
        logWith();
        common();
        unitsOfOrder();
        System.out.println(wrong == 0 ? "all answers are as due" : wrong + " answers are not as due");
        if (wrong != 0) {
            System.exit(1);
        }
    }
}
