import java.math.BigInteger;

/** Promises 26 to 36: modPower, inverse, symbol, units, order, generator, isPrime, modRoot, condition, solve, forget. */
public final class RemaindersTest {
    private static final BigInteger ZERO = BigInteger.ZERO;
    private static final BigInteger ONE = BigInteger.ONE;
    private static final BigInteger[] NUMBERS = {ZERO, ONE, Check.big(-1), Check.big(2), Check.big(-15), Check.two(30),
        Check.some(61, 1).negate(), Check.some(300, 3), Check.some(599, 6), Check.some(600, 7).negate(), Check.LONGEST, Check.LEAST};
    private static final BigInteger[] MODULI = {ONE, Check.big(2), Check.big(3), Check.big(1000000007), Check.two(30),
        Check.two(89).subtract(ONE), Check.some(599, 8), Check.two(599), Check.LONGEST, Check.two(521).subtract(ONE)};
    private static final BigInteger[] NOT_ABOVE_ZERO = {ZERO, Check.big(-1), Check.LEAST};

    public static void main(String[] args) {
        promise26();
        promise27();
        promise28();
        promise29to31();
        smallModuliRefused();
        promise32();
        promise33();
        promise34();
        promise35();
        promise35Wrong();
        promise36();
        Check.finish();
    }

    private static void promise26() {
        for (BigInteger m : MODULI) {
            for (BigInteger a : NUMBERS) {
                for (BigInteger e : NUMBERS) {
                    Residueworks x = Check.with(a, e, m);
                    String told = a + " to " + e + " by " + m;
                    if (e.signum() < 0 && !a.gcd(m).equals(ONE)) {
                        Check.fails(told, x, Check.NUMBER, () -> x.modPower(4, 1, 2, 3));
                    } else {
                        BigInteger want = a.modPow(e, m);
                        Check.wrote(told, x, 4, want, x.modPower(4, 1, 2, 3));
                        Check.wrote(told + " to the modulus itself", x, 3, want, x.modPower(3, 1, 2, 3));
                    }
                }
            }
        }
        Residueworks x = Check.with(Check.big(3), Check.big(-1), Check.big(7));
        Check.wrote("3 to -1 by 7", x, 3, Check.big(5), x.modPower(3, 1, 2, 3));
        for (BigInteger m : NOT_ABOVE_ZERO) {
            Residueworks y = Check.with(Check.big(3), Check.big(5), m);
            Check.fails("by " + m, y, Check.NUMBER, () -> y.modPower(0, 1, 2, 3));
            Check.fails("to 8 by " + m, y, Check.PLACE, () -> y.modPower(8, 1, 2, 3));
            Check.fails("from -1 by " + m, y, Check.PLACE, () -> y.modPower(0, -1, 2, 3));
            Check.fails("exponent 8 by " + m, y, Check.PLACE, () -> y.modPower(0, 1, 8, 3));
            Check.fails("modulus 8", y, Check.PLACE, () -> y.modPower(0, 1, 2, 8));
        }
        Residueworks zero = Check.with(ZERO, Check.big(-3), ONE, Check.big(2));
        Check.wrote("0 to -3 by 1", zero, 0, ZERO, zero.modPower(0, 1, 2, 3));
        Check.wrote("0 to 0 by 2", zero, 0, ONE, zero.modPower(0, 1, 1, 4));
        Check.wrote("0 to 0 by 1", zero, 0, ZERO, zero.modPower(0, 1, 1, 3));
        Check.fails("0 to -3 by 2", zero, Check.NUMBER, () -> zero.modPower(0, 1, 2, 4));
    }

    private static void promise27() {
        for (BigInteger m : MODULI) {
            for (BigInteger a : NUMBERS) {
                Residueworks x = Check.with(a, m);
                if (a.gcd(m).equals(ONE)) {
                    Check.wrote("inverse of " + a + " by " + m, x, 2, a.modInverse(m), x.inverse(2, 1, 2));
                } else {
                    Check.fails("inverse of " + a + " by " + m, x, Check.NUMBER, () -> x.inverse(0, 1, 2));
                }
            }
        }
        for (BigInteger m : NOT_ABOVE_ZERO) {
            Residueworks x = Check.with(Check.big(3), m);
            Check.fails("inverse by " + m, x, Check.NUMBER, () -> x.inverse(0, 1, 2));
            Check.fails("to 8", x, Check.PLACE, () -> x.inverse(8, 1, 2));
            Check.fails("from 8", x, Check.PLACE, () -> x.inverse(0, 8, 2));
            Check.fails("modulus -1", x, Check.PLACE, () -> x.inverse(0, 1, -1));
        }
    }

    /** The symbol as part 3 of the document tells it: by primes, and by the squares that there are. */
    private static int symbolByPrimes(long a, int odd) {
        int symbol = 1;
        int left = odd;
        for (int p = 3; left > 1; p += 2) {
            for (; left % p == 0; left /= p) {
                long rest = Math.floorMod(a, (long) p);
                int part = rest == 0 ? 0 : -1;
                for (long i = 1; i < p && rest != 0; i++) {
                    part = i * i % p == rest ? 1 : part;
                }
                symbol *= part;
            }
        }
        return symbol;
    }

    private static void promise28() {
        for (int odd = 1; odd < 240; odd += 2) {
            for (int a = -40; a < 260; a++) {
                Residueworks x = new Residueworks();
                x.put(1, a);
                x.put(2, odd);
                Check.same("symbol of " + a + " by " + odd, symbolByPrimes(a, odd), x.symbol(1, 2));
            }
        }
        BigInteger[] primes = {Check.two(89).subtract(ONE), Check.two(521).subtract(ONE), Check.big(1000000007)};
        for (BigInteger prime : primes) {
            for (BigInteger a : NUMBERS) {
                BigInteger left = a.modPow(prime.shiftRight(1), prime);
                int want = left.signum() == 0 ? 0 : left.equals(ONE) ? 1 : -1;
                Check.same("symbol of " + a + " by " + prime, want, Check.with(a, prime).symbol(1, 2));
                if (prime.bitLength() <= 300) {
                    Check.same("by its square", want * want, Check.with(a, prime.pow(2)).symbol(1, 2));
                }
            }
        }
        Check.same("symbol by the longest", 0, Check.with(Check.big(15), Check.LONGEST).symbol(1, 2));
        for (BigInteger n : new BigInteger[] {ZERO, Check.big(2), Check.big(-3), Check.big(-1), Check.LEAST, Check.two(599)}) {
            Residueworks x = Check.with(Check.big(3), n);
            Check.fails("symbol by " + n, x, Check.NUMBER, () -> x.symbol(1, 2));
            Check.fails("symbol of 8", x, Check.PLACE, () -> x.symbol(8, 2));
            Check.fails("symbol by -1", x, Check.PLACE, () -> x.symbol(1, -1));
        }
    }

    private static int gcd(int a, int b) {
        return b == 0 ? a : gcd(b, a % b);
    }

    private static int orderOf(int number, int modulus) {
        int order = 1;
        for (int power = number % modulus; power != 1; power = power * number % modulus) {
            order++;
        }
        return order;
    }

    private static void promise29to31() {
        for (int modulus = 2; modulus <= 4096; modulus += modulus < 300 || modulus > 4000 ? 1 : 7) {
            int units = 0;
            for (int i = 0; i < modulus; i++) {
                units += gcd(i, modulus) == 1 ? 1 : 0;
            }
            int generator = 0;
            for (int i = modulus - 1; i >= 1; i--) {
                generator = gcd(i, modulus) == 1 && orderOf(i, modulus) == units ? i : generator;
            }
            Residueworks x = new Residueworks();
            x.put(7, modulus);
            Check.same("units of " + modulus, units, x.units(7));
            Check.same("generator of " + modulus, generator, x.generator(7));
            for (int number = -3; number <= modulus && number < 12; number++) {
                x.put(6, number);
                int rest = Math.floorMod(number, modulus);
                if (gcd(rest, modulus) == 1) {
                    Check.same("order of " + number + " by " + modulus, orderOf(rest, modulus), x.order(6, 7));
                } else {
                    Check.fails("order of " + number + " by " + modulus, x, Check.NUMBER, () -> x.order(6, 7));
                }
            }
            Check.set(x, 6, Check.some(600, modulus).setBit(0).negate());
            int rest = Check.get(x, 6).mod(Check.big(modulus)).intValue();
            if (gcd(rest, modulus) == 1) {
                Check.same("order of a long number by " + modulus, orderOf(rest, modulus), x.order(6, 7));
            }
        }
    }

    private static void smallModuliRefused() {
        for (BigInteger m : new BigInteger[] {ZERO, ONE, Check.big(-1), Check.big(-7), Check.big(4097), Check.two(30).add(Check.big(7)),
            Check.two(32).add(Check.big(7)), Check.LONGEST, Check.LEAST}) {
            Residueworks x = Check.with(ONE, m);
            Check.fails("units of " + m, x, Check.NUMBER, () -> x.units(2));
            Check.fails("order by " + m, x, Check.NUMBER, () -> x.order(1, 2));
            Check.fails("generator of " + m, x, Check.NUMBER, () -> x.generator(2));
        }
        for (int register : new int[] {-1, 8}) {
            Residueworks x = new Residueworks();
            Check.fails("units", x, Check.PLACE, () -> x.units(register));
            Check.fails("order", x, Check.PLACE, () -> x.order(register, 0));
            Check.fails("order by", x, Check.PLACE, () -> x.order(0, register));
            Check.fails("generator", x, Check.PLACE, () -> x.generator(register));
            Check.fails("isPrime", x, Check.PLACE, () -> x.isPrime(register));
        }
    }

    private static void promise32() {
        boolean[] composite = new boolean[1048576];
        for (int i = 2; i < 1024; i++) {
            for (int j = i * i; j < composite.length; j += i) {
                composite[j] = true;
            }
        }
        Residueworks x = null;
        for (int number = 0; number < composite.length; number++) {
            x = number % 200 == 0 ? new Residueworks() : x;
            x.put(0, number);
            Check.same("isPrime " + number, number >= 2 && !composite[number], x.isPrime(0));
        }
        for (BigInteger number : new BigInteger[] {Check.big(-1), Check.big(-7), Check.big(1048576), Check.two(32).add(Check.big(7)),
            Check.two(61).subtract(ONE), Check.LONGEST, Check.LEAST}) {
            Residueworks y = Check.with(number);
            Check.fails("isPrime " + number, y, Check.NUMBER, () -> y.isPrime(1));
        }
    }

    private static void modRoot(BigInteger number, int prime) {
        long rest = number.mod(Check.big(prime)).longValue();
        long least = -1;
        for (long i = 0; i < prime && least < 0; i++) {
            least = i * i % prime == rest ? i : -1;
        }
        Residueworks x = Check.with(number, Check.big(prime));
        if (least < 0) {
            Check.fails("modRoot of " + number + " by " + prime, x, Check.NONE, () -> x.modRoot(3, 1, 2));
        } else {
            Check.wrote("modRoot of " + number + " by " + prime, x, 2, Check.big(least), x.modRoot(2, 1, 2));
        }
    }

    private static void promise33() {
        for (int prime : new int[] {3, 5, 7, 11, 13, 17, 41, 97, 193, 257, 641}) {
            for (int number = -5; number < prime + 3; number++) {
                modRoot(Check.big(number), prime);
            }
        }
        for (int prime : new int[] {12289, 65537, 786433, 1048573, 1048571, 995329}) {
            for (int i = 0; i < 60; i++) {
                modRoot(Check.some(20, i), prime);
                modRoot(Check.big(i).multiply(Check.big(i)), prime);
            }
            modRoot(Check.LONGEST, prime);
            modRoot(Check.LEAST, prime);
            modRoot(Check.big(prime), prime);
            modRoot(Check.big(-1), prime);
        }
        for (BigInteger prime : new BigInteger[] {ZERO, ONE, Check.big(2), Check.big(4), Check.big(9), Check.big(-3), Check.big(-7),
            Check.big(1048575), Check.big(1048576), Check.big(1048583), Check.two(61).subtract(ONE), Check.LONGEST, Check.LEAST}) {
            Residueworks x = Check.with(ONE, prime);
            Check.fails("modRoot by " + prime, x, Check.NUMBER, () -> x.modRoot(0, 1, 2));
        }
        Residueworks x = Check.with(Check.big(2), Check.big(3), Check.big(9));
        Check.fails("to 8, no root", x, Check.PLACE, () -> x.modRoot(8, 1, 2));
        Check.fails("from -1, no prime", x, Check.PLACE, () -> x.modRoot(0, -1, 3));
        Check.fails("prime 8", x, Check.PLACE, () -> x.modRoot(0, 1, 8));
    }

    private static void promise34() {
        Residueworks x = Check.with(Check.big(-5), Check.big(7), ZERO, Check.big(-7), Check.LONGEST, Check.LEAST);
        int[] moduli = {2, 5, 2, 5, 2, 2};
        int[] rests = {1, 6, 3, 1, 4, 6};
        for (int i = 0; i < 6; i++) {
            int modulus = moduli[i];
            int rest = rests[i];
            Check.fails("condition by 0", x, Check.NUMBER, () -> x.condition(1, 3));
            Check.fails("condition by -7", x, Check.NUMBER, () -> x.condition(1, 4));
            Check.fails("condition of 8", x, Check.PLACE, () -> x.condition(8, 3));
            Check.fails("condition by -1", x, Check.PLACE, () -> x.condition(1, -1));
            Check.same("condition", i + 1, x.condition(rest, modulus));
        }
        Check.fails("condition 7", x, Check.STATE, () -> x.condition(1, 2));
        Check.fails("condition 7 by 0", x, Check.NUMBER, () -> x.condition(1, 3));
        Check.fails("condition 7 of 8", x, Check.PLACE, () -> x.condition(8, 2));
        Check.same("forget", 6, x.forget());
        Check.same("condition after it", 1, x.condition(1, 2));
        x.put(1, 100);
        x.put(2, 99);
        Check.same("solve", true, x.solve(3, 4));
        Check.same("the remainder as it was told", Check.big(2), Check.get(x, 3));
        Check.same("the modulus as it was told", Check.big(7), Check.get(x, 4));
    }

    private static Residueworks told(BigInteger... restsAndModuli) {
        Residueworks x = Check.with(Check.big(77), Check.big(78));
        for (int i = 0; i < restsAndModuli.length; i += 2) {
            Check.set(x, 3, restsAndModuli[i]);
            Check.set(x, 4, restsAndModuli[i + 1]);
            Check.same("condition", i / 2 + 1, x.condition(3, 4));
        }
        return x;
    }

    private static void solved(BigInteger number, BigInteger multiple, BigInteger... restsAndModuli) {
        Residueworks x = told(restsAndModuli);
        Check.same("solve", true, x.solve(1, 2));
        Check.same("the number", number, Check.get(x, 1));
        Check.same("the multiple", multiple, Check.get(x, 2));
        Check.same("solve again", true, x.solve(7, 0));
        Check.same("the number", number, Check.get(x, 7));
        Check.same("the multiple", multiple, Check.get(x, 0));
    }

    private static BigInteger[] numbers(long... numbers) {
        BigInteger[] all = new BigInteger[numbers.length];
        for (int i = 0; i < all.length; i++) {
            all[i] = Check.big(numbers[i]);
        }
        return all;
    }

    private static void promise35() {
        solved(ZERO, ONE);
        solved(ZERO, ONE, numbers(5, 1));
        solved(Check.big(23), Check.big(105), numbers(2, 3, 3, 5, 2, 7));
        solved(Check.big(3), Check.big(12), numbers(-1, 4, 9, 6));
        solved(Check.big(5), Check.big(12), numbers(5, 12, 5, 12, 1, 4, 2, 3, 1, 2, 0, 1));
        for (int m = 1; m <= 12; m++) {
            for (int n = 1; n <= 12; n++) {
                for (int a = -2; a < m; a++) {
                    int multiple = m * n / gcd(m, n);
                    int least = -1;
                    for (int i = multiple - 1; i >= 0; i--) {
                        least = Math.floorMod(i - a, m) == 0 && Math.floorMod(i - 3, n) == 0 ? i : least;
                    }
                    if (least >= 0) {
                        solved(Check.big(least), Check.big(multiple), numbers(a, m, 3, n));
                    } else {
                        Residueworks x = told(numbers(a, m, 3, n));
                        Check.fails("no such number", x, null, () -> x.solve(1, 2));
                    }
                }
            }
        }
        BigInteger p = Check.two(89).subtract(ONE);
        BigInteger q = Check.two(107).subtract(ONE);
        BigInteger r = Check.two(127).subtract(ONE);
        BigInteger number = Check.some(590, 5).mod(p.multiply(q).multiply(r));
        solved(number, p.multiply(q).multiply(r), number, p, number.negate().negate(), q, number.subtract(r), r);
        solved(Check.LONGEST.subtract(ONE), Check.LONGEST, Check.big(-1), Check.LONGEST);
        solved(ZERO, Check.two(599), Check.LEAST, Check.two(599), ZERO, Check.two(598));
        solved(Check.two(599).subtract(ONE), Check.two(599), Check.LONGEST, Check.two(599), Check.big(-1), Check.big(2));
    }

    private static void promise35Wrong() {
        BigInteger p = Check.two(521).subtract(ONE);
        Residueworks longer = told(ONE, p, ONE, p.subtract(Check.big(2)));
        Check.fails("a multiple too long", longer, Check.STATE, () -> longer.solve(1, 2));
        Check.fails("a multiple too long, the same register", longer, Check.ARGUMENT, () -> longer.solve(2, 2));
        Check.fails("a multiple too long, no register", longer, Check.PLACE, () -> longer.solve(8, 8));
        Check.fails("a multiple too long, no register", longer, Check.PLACE, () -> longer.solve(1, -1));
        BigInteger r = Check.two(127).subtract(ONE);
        Residueworks first = told(ONE, Check.two(599), ZERO, r, ZERO, Check.big(2));
        Check.fails("none, behind a multiple too long", first, null, () -> first.solve(1, 2));
        Residueworks last = told(ZERO, p, ZERO, r, ONE, Check.two(300), ONE, r);
        Check.fails("none, behind a multiple too long", last, null, () -> last.solve(1, 2));
        Residueworks just = told(ZERO, Check.two(599), ONE, Check.big(3));
        Check.fails("a multiple of 601 bits", just, Check.STATE, () -> just.solve(1, 2));
        solved(Check.two(598), Check.two(598).multiply(Check.big(3)), ZERO, Check.two(598), Check.two(598), Check.big(3));
        BigInteger all = Check.two(300).subtract(ONE).multiply(Check.two(300).add(ONE));
        solved(ONE, all, ONE, Check.two(300).subtract(ONE), ONE, Check.two(300).add(ONE));
        Residueworks over = told(ONE, Check.two(300).subtract(ONE), ONE, Check.two(300).add(ONE), ONE, Check.two(1));
        Check.fails("twice that", over, Check.STATE, () -> over.solve(1, 2));
        Residueworks none = new Residueworks();
        Check.fails("the same, without conditions", none, Check.ARGUMENT, () -> none.solve(7, 7));
    }

    private static void promise36() {
        Residueworks x = told(ONE, Check.big(2), ZERO, Check.big(2));
        Check.fails("no such number", x, null, () -> x.solve(1, 2));
        Check.same("forget", 2, x.forget());
        Check.same("forget again", 0, x.forget());
        Check.same("solve after it", true, x.solve(1, 2));
        Check.same("the number", ZERO, Check.get(x, 1));
        Check.same("the multiple", ONE, Check.get(x, 2));
    }
}
