import java.math.BigInteger;

/** The edges that promises 26 to 36 name. */
final class RemaindersEdges {
    private static final String NO_REGISTER = "Throws `IndexOutOfBoundsException` if there is no such register";
    private static final String NOT_SMALL = "Throws `ArithmeticException` if the modulus is not 2 to 4096";
    private static final String LENGTH = "Returns its length.";
    private static final String TO = "- `to`: 0 to 7";
    private static final String FROM = "- `from`: 0 to 7";
    private static final String MODULUS = "- `modulus`: 0 to 7";
    private static final int[] BEYOND = {-1, 8, Integer.MIN_VALUE, Integer.MAX_VALUE};
    private static final BigInteger ONE = BigInteger.ONE;
    private static final BigInteger[] NOT_ABOVE_0 = {BigInteger.ZERO, Check.big(-1), Check.big(-2), Check.big(-7), Check.LEAST};
    private static final BigInteger[] NOT_SMALL_MODULI = {BigInteger.ZERO, ONE, Check.big(-1), Check.big(-2), Check.big(-4096),
        Check.big(4097), Check.big(8192), Check.two(30), Check.two(30).add(Check.big(7)), Check.two(32).add(Check.big(7)),
        Check.two(60).add(Check.big(7)), Check.two(64).add(Check.big(7)), Check.LONGEST, Check.LEAST};

    private RemaindersEdges() {
    }

    static void run() {
        promise26();
        promise26Refused();
        promise27();
        promise28();
        promise29();
        promise30();
        promise31();
        promise32();
        promise33();
        promise33Refused();
        promise34();
        promise35();
        promise35Several();
        promise35Refused();
        promise36();
    }

    private static BigInteger big(long number) {
        return Check.big(number);
    }

    private static State of(BigInteger one, BigInteger other) {
        return State.some().set(1, one).set(2, other);
    }

    private static State of(long one, long other) {
        return of(big(one), big(other));
    }

    private static State of(BigInteger number, BigInteger exponent, BigInteger modulus) {
        return of(number, exponent).set(3, modulus);
    }

    private static State of(long number, long exponent, long modulus) {
        return of(big(number), big(exponent), big(modulus));
    }

    private static void power(BigInteger number, BigInteger exponent, BigInteger modulus, BigInteger want) {
        Edge.writes(of(number, exponent, modulus), 5, want, "modPower", 5, 1, 2, 3);
    }

    private static void power(long number, long exponent, long modulus, long want) {
        power(big(number), big(exponent), big(modulus), big(want));
    }

    private static void promise26() {
        Edge.says(26, "Raises by a modulus, by modPow().");
        power(3, 5, 7, 5);
        power(-3, 5, 7, 2);
        power(0, 0, 2, 1);
        power(0, 0, 1, 0);
        power(0, 1, 7, 0);
        power(7, 3, 7, 0);
        power(-1, 2, 3, 1);
        power(-1, 3, 3, 2);
        Edge.says(26, "- `exponent`: the register of the exponent, 0 to 7");
        power(3, -1, 7, 5);
        power(3, -2, 7, 4);
        power(-3, -1, 7, 2);
        power(1, -1, 2, 1);
        power(3, 0, 7, 1);
        power(big(2), Check.LONGEST, big(3), big(2));
        power(big(2), Check.LEAST, big(3), ONE);
        power(big(-1), Check.LEAST, Check.LONGEST, ONE);
        power(big(-1), Check.LEAST.add(ONE), Check.LONGEST, Check.LONGEST.subtract(ONE));
        power(Check.LEAST, Check.LONGEST, Check.LONGEST, Check.LONGEST.subtract(ONE));
        power(Check.LEAST, big(-1), Check.LONGEST, Check.LONGEST.subtract(ONE));
        power(Check.LONGEST, Check.LONGEST, Check.two(599), Check.two(599).subtract(ONE));
        for (int register = 0; register < 8; register++) {
            Edge.says(26, TO);
            Edge.writes(of(3, 5, 7), register, 5, "modPower", register, 1, 2, 3);
            Edge.says(26, FROM);
            Edge.writes(State.some().set(4, 2).set(5, 11).set(register, 3), 6, register == 4 ? 5 : register == 5 ? 0 : 9,
                "modPower", 6, register, 4, 5);
            Edge.says(26, "- `exponent`: the register of the exponent, 0 to 7");
            Edge.writes(State.some().set(4, 2).set(5, 11).set(register, 3), 6, register == 4 ? 5 : register == 5 ? 2 : 8,
                "modPower", 6, 4, register, 5);
            Edge.says(26, MODULUS);
            Edge.writes(State.some().set(4, 5).set(5, 2).set(register, 7), 6, register == 4 ? 0 : register == 5 ? 5 : 4,
                "modPower", 6, 4, 5, register);
        }
        Edge.says(26, LENGTH);
        Edge.answers(of(7, 3, 7), 0, "modPower", 5, 1, 2, 3);
        Edge.answers(of(-1, 3, 3), 2, "modPower", 5, 1, 2, 3);
        Edge.answers(of(Check.LEAST, big(1), Check.LONGEST), 600, "modPower", 5, 1, 2, 3);
    }

    private static void promise26Refused() {
        for (BigInteger number : new BigInteger[] {big(0), big(1), big(-1), big(6), Check.LONGEST, Check.LEAST}) {
            for (BigInteger exponent : new BigInteger[] {big(0), big(1), big(-1), Check.LONGEST, Check.LEAST}) {
                Edge.says(26, "Throws `ArithmeticException` if the modulus is not above 0, or the exponent is below 0, and the"
                    + " number is not prime to the modulus");
                // By 1 all leave 0, and all are prime to it.
                power(number, exponent, ONE, big(0));
                for (BigInteger modulus : NOT_ABOVE_0) {
                    Edge.refuses(of(number, exponent, modulus), Check.NUMBER, "modPower", 5, 1, 2, 3);
                }
            }
        }
        long[][] refused = {{0, -1, 2}, {0, -1, 7}, {2, -1, 4}, {6, -1, 3}, {-6, -2, 9}, {7, -7, 7}};
        for (long[] numbers : refused) {
            Edge.refuses(of(numbers[0], numbers[1], numbers[2]), Check.NUMBER, "modPower", 5, 1, 2, 3);
            power(numbers[0], 0, numbers[2], 1);
        }
        Edge.refuses(of(Check.LONGEST, Check.LEAST, Check.LONGEST), Check.NUMBER, "modPower", 5, 1, 2, 3);
        Edge.refuses(of(Check.LEAST, Check.LEAST, Check.two(599)), Check.NUMBER, "modPower", 5, 1, 2, 3);
        Edge.says(26, NO_REGISTER);
        for (int beyond : BEYOND) {
            Edge.refuses(of(3, 5, 7), Check.PLACE, "modPower", beyond, 1, 2, 3);
            Edge.refuses(of(3, 5, 7), Check.PLACE, "modPower", 5, beyond, 2, 3);
            Edge.refuses(of(3, 5, 7), Check.PLACE, "modPower", 5, 1, beyond, 3);
            Edge.refuses(of(3, 5, 7), Check.PLACE, "modPower", 5, 1, 2, beyond);
        }
    }

    private static void inverse(BigInteger number, BigInteger modulus, BigInteger want) {
        Edge.writes(of(number, modulus), 5, want, "inverse", 5, 1, 2);
    }

    private static void inverse(long number, long modulus, long want) {
        inverse(big(number), big(modulus), big(want));
    }

    private static void promise27() {
        Edge.says(27, "Inverts by a modulus, by modInverse(); by 1 it is 0.");
        inverse(3, 7, 5);
        inverse(-3, 7, 2);
        inverse(10, 7, 5);
        inverse(1, 2, 1);
        inverse(-1, 2, 1);
        inverse(-1, 4096, 4095);
        inverse(Check.LEAST, Check.LONGEST, Check.LONGEST.subtract(ONE));
        inverse(big(2), Check.LONGEST, Check.two(599));
        inverse(Check.LONGEST, Check.two(599), Check.two(599).subtract(ONE));
        for (BigInteger number : new BigInteger[] {big(0), big(1), big(-1), Check.LONGEST, Check.LEAST}) {
            inverse(number, ONE, big(0));
        }
        for (int register = 0; register < 8; register++) {
            Edge.says(27, TO);
            Edge.writes(of(3, 7), register, 5, "inverse", register, 1, 2);
            Edge.says(27, FROM);
            Edge.agrees(State.some().set(5, 7).set(register, 3), "inverse", 6, register, 5);
            Edge.says(27, MODULUS);
            Edge.agrees(State.some().set(4, 3).set(register, 7), "inverse", 6, 4, register);
        }
        Edge.says(27, LENGTH);
        Edge.answers(of(5, 1), 0, "inverse", 5, 1, 2);
        Edge.answers(of(3, 7), 3, "inverse", 5, 1, 2);
        Edge.says(27, NO_REGISTER);
        for (int beyond : BEYOND) {
            Edge.refuses(of(3, 7), Check.PLACE, "inverse", beyond, 1, 2);
            Edge.refuses(of(3, 7), Check.PLACE, "inverse", 5, beyond, 2);
            Edge.refuses(of(3, 7), Check.PLACE, "inverse", 5, 1, beyond);
        }
        Edge.says(27, "Throws `ArithmeticException` if the modulus is not above 0, or the number is not prime to it");
        for (BigInteger number : new BigInteger[] {big(0), big(1), big(-1), Check.LONGEST, Check.LEAST}) {
            for (BigInteger modulus : NOT_ABOVE_0) {
                Edge.refuses(of(number, modulus), Check.NUMBER, "inverse", 5, 1, 2);
            }
        }
        long[][] refused = {{0, 2}, {0, 7}, {2, 2}, {2, 4}, {-6, 9}, {7, 7}, {14, 7}};
        for (long[] numbers : refused) {
            Edge.refuses(of(numbers[0], numbers[1]), Check.NUMBER, "inverse", 5, 1, 2);
        }
        Edge.refuses(of(Check.LEAST, Check.two(599)), Check.NUMBER, "inverse", 5, 1, 2);
        Edge.refuses(of(Check.LONGEST, Check.LONGEST), Check.NUMBER, "inverse", 5, 1, 2);
    }

    private static void promise28() {
        Edge.says(28, "Returns the symbol (part 3) of the one by the other one.");
        Edge.says(28, "Returns -1, 0 or 1.");
        Edge.tells(of(2, 3), -1, "symbol", 1, 2);
        Edge.tells(of(3, 3), 0, "symbol", 1, 2);
        Edge.tells(of(4, 3), 1, "symbol", 1, 2);
        Edge.tells(of(Check.LEAST, Check.LONGEST), -1, "symbol", 1, 2);
        Edge.tells(of(Check.LONGEST, Check.LONGEST), 0, "symbol", 1, 2);
        Edge.tells(of(Check.two(599), Check.LONGEST), 1, "symbol", 1, 2);
        for (BigInteger one : new BigInteger[] {big(0), big(1), big(-1), Check.LONGEST, Check.LEAST}) {
            Edge.tells(of(one, ONE), 1, "symbol", 1, 2);
        }
        for (int register = 0; register < 8; register++) {
            Edge.says(28, "- `one`: 0 to 7");
            Edge.tells(State.some().set(4, 7).set(register, 3), register == 4 ? 0 : -1, "symbol", register, 4);
            Edge.says(28, "- `other`: 0 to 7");
            Edge.tells(State.some().set(4, 3).set(register, 7), register == 4 ? 0 : -1, "symbol", 4, register);
        }
        Edge.says(28, NO_REGISTER);
        for (int beyond : BEYOND) {
            Edge.refuses(of(3, 7), Check.PLACE, "symbol", beyond, 2);
            Edge.refuses(of(3, 7), Check.PLACE, "symbol", 1, beyond);
        }
        Edge.says(28, "Throws `ArithmeticException` if the other one is not odd, or not above 0");
        for (BigInteger one : new BigInteger[] {big(0), big(1), big(-1), Check.LEAST}) {
            for (BigInteger other : new BigInteger[] {big(0), big(2), big(4096), big(-1), big(-2), big(-3), Check.two(599), Check.LEAST,
                Check.LEAST.add(ONE), Check.LONGEST.subtract(ONE)}) {
                Edge.refuses(of(one, other), Check.NUMBER, "symbol", 1, 2);
            }
        }
    }

    private static void promise29() {
        Edge.says(29, "Returns how many of the numbers from 0 to the modulus less 1 are prime to it.");
        Edge.says(29, "Returns how many.");
        int[][] dues = {{2, 1}, {3, 2}, {4, 2}, {6, 2}, {4093, 4092}, {4094, 1936}, {4095, 1728}, {4096, 2048}};
        for (int[] due : dues) {
            Edge.tells(State.some().set(3, due[0]), due[1], "units", 3);
        }
        for (int register = 0; register < 8; register++) {
            Edge.says(29, MODULUS);
            Edge.tells(State.some().set(register, 10), 4, "units", register);
        }
        Edge.says(29, NO_REGISTER);
        for (int beyond : BEYOND) {
            Edge.refuses(State.some(), Check.PLACE, "units", beyond);
        }
        Edge.says(29, NOT_SMALL);
        for (BigInteger modulus : NOT_SMALL_MODULI) {
            Edge.refuses(State.some().set(3, modulus), Check.NUMBER, "units", 3);
        }
    }

    private static void promise30() {
        Edge.says(30, "Returns the least exponent above 0 by which a register leaves 1 by a modulus.");
        Edge.says(30, "Returns the exponent.");
        long[][] dues = {{1, 2, 1}, {3, 2, 1}, {-1, 2, 1}, {1, 4096, 1}, {4095, 4096, 2}, {-1, 4096, 2}, {3, 4096, 1024},
            {5, 4096, 1024}, {2, 4093, 4092}, {3, 7, 6}, {10, 7, 6}, {-4, 7, 6}};
        for (long[] due : dues) {
            Edge.tells(of(due[0], due[1]), due[2], "order", 1, 2);
        }
        Edge.tells(of(Check.LONGEST, big(4096)), 2, "order", 1, 2);
        Edge.tells(of(Check.LEAST, big(3)), 2, "order", 1, 2);
        for (int register = 0; register < 8; register++) {
            Edge.says(30, "- `register`: 0 to 7");
            Edge.agrees(State.some().set(4, 7).set(register, 3), "order", register, 4);
            Edge.says(30, MODULUS);
            Edge.agrees(State.some().set(4, 3).set(register, 7), "order", 4, register);
        }
        Edge.says(30, NO_REGISTER);
        for (int beyond : BEYOND) {
            Edge.refuses(of(3, 7), Check.PLACE, "order", beyond, 2);
            Edge.refuses(of(3, 7), Check.PLACE, "order", 1, beyond);
        }
        Edge.says(30, "Throws `ArithmeticException` if the modulus is not 2 to 4096, or the number is not prime to it");
        for (BigInteger modulus : NOT_SMALL_MODULI) {
            for (long number : new long[] {0, 1, 3}) {
                Edge.refuses(of(big(number), modulus), Check.NUMBER, "order", 1, 2);
            }
        }
        for (BigInteger number : new BigInteger[] {big(0), big(2), big(-2), big(4096), big(4094), Check.LEAST}) {
            Edge.refuses(of(number, big(2)), Check.NUMBER, "order", 1, 2);
            Edge.refuses(of(number, big(4096)), Check.NUMBER, "order", 1, 2);
        }
        Edge.refuses(of(6, 9), Check.NUMBER, "order", 1, 2);
        Edge.refuses(of(7, 7), Check.NUMBER, "order", 2, 2);
    }

    private static void promise31() {
        Edge.says(31, "Returns the least number, from 1 on, whose powers are all that are prime to the modulus.");
        Edge.says(31, "Returns the number; 0 if there is none.");
        int[][] dues = {{2, 1}, {3, 2}, {4, 3}, {5, 2}, {6, 5}, {7, 3}, {8, 0}, {9, 2}, {10, 3}, {12, 0}, {15, 0}, {16, 0}, {18, 5},
            {27, 2}, {41, 6}, {54, 5}, {3 * 7, 0}, {191, 19}, {4093, 2}, {4094, 0}, {4095, 0}, {4096, 0}};
        for (int[] due : dues) {
            Edge.tells(State.some().set(3, due[0]), due[1], "generator", 3);
        }
        for (int modulus : new int[] {121, 242, 1331, 2401, 2662, 2187, 3125, 3721, 3969, 4050, 4058, 4087, 4091}) {
            Edge.agrees(State.some().set(3, modulus), "generator", 3);
        }
        for (int register = 0; register < 8; register++) {
            Edge.says(31, MODULUS);
            Edge.tells(State.some().set(register, 10), 3, "generator", register);
        }
        Edge.says(31, NO_REGISTER);
        for (int beyond : BEYOND) {
            Edge.refuses(State.some(), Check.PLACE, "generator", beyond);
        }
        Edge.says(31, NOT_SMALL);
        for (BigInteger modulus : NOT_SMALL_MODULI) {
            Edge.refuses(State.some().set(3, modulus), Check.NUMBER, "generator", 3);
        }
    }

    private static void promise32() {
        Edge.says(32, "Tells whether a register is a prime.");
        Edge.says(32, "Returns whether it is.");
        int[] primes = {2, 3, 5, 1019, 1021, 1031, 1048571, 1048573};
        int[] others = {0, 1, 4, 9, 25, 1019 * 1019, 1021 * 1021, 1019 * 1021, 1013 * 1031, 1048574, 1048575};
        for (int prime : primes) {
            Edge.tells(State.some().set(3, prime), true, "isPrime", 3);
        }
        for (int other : others) {
            Edge.tells(State.some().set(3, other), false, "isPrime", 3);
        }
        for (int register = 0; register < 8; register++) {
            Edge.says(32, "- `register`: 0 to 7");
            Edge.tells(State.some().set(register, 7), true, "isPrime", register);
        }
        Edge.says(32, NO_REGISTER);
        for (int beyond : BEYOND) {
            Edge.refuses(State.some(), Check.PLACE, "isPrime", beyond);
        }
        Edge.says(32, "Throws `ArithmeticException` if it is not 0 to 1048575");
        for (BigInteger number : new BigInteger[] {big(-1), big(-2), big(-7), big(1048576), big(1048583), Check.two(30).add(big(3)),
            Check.two(32).add(big(15)), Check.two(60).add(big(7)), Check.two(64).add(big(13)), Check.LONGEST, Check.LEAST}) {
            Edge.refuses(State.some().set(3, number), Check.NUMBER, "isPrime", 3);
        }
    }

    private static void root(BigInteger number, long prime, long want) {
        Edge.writes(of(number, big(prime)), 5, want, "modRoot", 5, 1, 2);
    }

    private static void promise33() {
        Edge.says(33, "Makes a register the least number, from 0 on, whose square leaves what another one leaves by an odd prime.");
        long[][] dues = {{0, 3, 0}, {3, 3, 0}, {1, 3, 1}, {-2, 3, 1}, {4, 5, 2}, {-1, 5, 2}, {2, 7, 3}, {9, 7, 3}, {-5, 7, 3},
            {1048572, 1048573, -1}, {4, 1048573, 2}, {1, 1048573, 1}, {0, 1048573, 0}, {1048573, 1048573, 0}, {-1, 65537, 256}};
        for (long[] due : dues) {
            if (due[2] >= 0) {
                root(big(due[0]), due[1], due[2]);
            }
        }
        for (long prime : new long[] {3, 12289, 65537, 786433, 1048571, 1048573}) {
            long half = (prime - 1) / 2;
            root(big(half * half), prime, half);
            root(big(half + 1).multiply(big(half + 1)), prime, half);
            root(big(prime - 1).multiply(big(prime - 1)), prime, 1);
            root(big(prime).shiftLeft(500), prime, 0);
        }
        Edge.agrees(of(Check.LONGEST, big(1048573)), "modRoot", 5, 1, 2);
        Edge.agrees(of(Check.LEAST, big(1048573)), "modRoot", 5, 1, 2);
        Edge.agrees(of(Check.LEAST, big(786433)), "modRoot", 5, 1, 2);
        for (int register = 0; register < 8; register++) {
            Edge.says(33, TO);
            Edge.writes(of(2, 7), register, 3, "modRoot", register, 1, 2);
            Edge.says(33, FROM);
            int prime = register == 4 ? 3 : 4;
            Edge.writes(State.some().set(prime, 7).set(register, 2), 5, 3, "modRoot", 5, register, prime);
            Edge.says(33, "- `prime`: 0 to 7");
            Edge.writes(State.some().set(4, 2).set(register, 7), 5, register == 4 ? 0 : 3, "modRoot", 5, 4, register);
        }
        Edge.says(33, LENGTH);
        Edge.answers(of(7, 7), 0, "modRoot", 5, 1, 2);
        Edge.answers(of(2, 7), 2, "modRoot", 5, 1, 2);
    }

    private static void promise33Refused() {
        Edge.says(33, NO_REGISTER);
        for (int beyond : BEYOND) {
            Edge.refuses(of(2, 7), Check.PLACE, "modRoot", beyond, 1, 2);
            Edge.refuses(of(2, 7), Check.PLACE, "modRoot", 5, beyond, 2);
            Edge.refuses(of(2, 7), Check.PLACE, "modRoot", 5, 1, beyond);
        }
        Edge.says(33, "Throws `ArithmeticException` if it is no odd prime up to 1048575");
        for (BigInteger prime : new BigInteger[] {big(0), ONE, big(2), big(4), big(9), big(1024), big(1021 * 1021), big(1048574),
            big(1048575), big(1048576), big(1048583), big(-1), big(-3), big(-7), Check.two(30).add(big(3)), Check.two(32).add(big(15)),
            Check.two(61).subtract(ONE), Check.LONGEST, Check.LEAST}) {
            for (BigInteger number : new BigInteger[] {big(0), big(1), big(-1), Check.LEAST}) {
                Edge.refuses(of(number, prime), Check.NUMBER, "modRoot", 5, 1, 2);
            }
        }
        Edge.says(33, "Throws `NoSuchElementException` if there is no such number");
        long[][] none = {{2, 3}, {-1, 3}, {5, 3}, {2, 5}, {3, 5}, {3, 7}, {-1, 7}, {2, 1048573}, {-1, 1048571}, {3, 65537}};
        for (long[] numbers : none) {
            Edge.refuses(of(numbers[0], numbers[1]), Check.NONE, "modRoot", 5, 1, 2);
        }
        Edge.refuses(of(Check.LEAST, big(3)), Check.NONE, "modRoot", 5, 1, 2);
    }

    /** So many conditions that any number keeps. */
    private static State told(int count) {
        State state = State.some().untold();
        for (int i = 0; i < count; i++) {
            state.told(i, 1);
        }
        return state;
    }

    private static void solved(State state, BigInteger number, BigInteger multiple) {
        Edge.answers(state, true, "solve", 5, 6);
        Residueworks x = state.program();
        x.solve(5, 6);
        Edge.same("the number of " + state, number, Check.get(x, 5));
        Edge.same("the multiple of " + state, multiple, Check.get(x, 6));
    }

    private static void solved(State state, long number, long multiple) {
        solved(state, big(number), big(multiple));
    }

    private static void promise34() {
        Edge.says(34, "Tells a condition: a number leaves by the modulus what the rest leaves by it.");
        for (long rest : new long[] {3, 10, -4, -11, 7000003}) {
            solved(State.some().untold().told(rest, 7), 3, 7);
        }
        solved(State.some().untold().told(Check.LEAST, Check.LONGEST), Check.LONGEST.subtract(ONE), Check.LONGEST);
        Residueworks x = of(3, 7).untold().program();
        x.condition(1, 2);
        x.put(1, 4);
        x.put(2, 9);
        Edge.same("it is told as it was then", true, x.solve(5, 6));
        Edge.same("its rest", 3, x.exact(5));
        Edge.same("its modulus", 7, x.exact(6));
        for (int register = 0; register < 8; register++) {
            Edge.says(34, "- `rest`: 0 to 7");
            Edge.answers(State.some().set(4, 9).set(register, -2), 3, "condition", register, 4 == register ? 0 : 4);
            Edge.says(34, MODULUS);
            Edge.answers(State.some().set(register, 9), 3, "condition", 4, register);
        }
        Edge.says(34, "Returns how many are told.");
        for (int count = 0; count < 6; count++) {
            Edge.answers(told(count), count + 1, "condition", 4, 0);
        }
        Edge.says(34, NO_REGISTER);
        for (int beyond : BEYOND) {
            Edge.refuses(State.some(), Check.PLACE, "condition", beyond, 0);
            Edge.refuses(State.some(), Check.PLACE, "condition", 0, beyond);
            Edge.refuses(State.some().fullConditions(), Check.PLACE, "condition", 0, beyond);
        }
        Edge.says(34, "Throws `ArithmeticException` if the modulus is not above 0");
        Edge.answers(State.some().set(3, 1), 3, "condition", 4, 3);
        for (BigInteger modulus : NOT_ABOVE_0) {
            Edge.refuses(State.some().set(3, modulus), Check.NUMBER, "condition", 4, 3);
            Edge.refuses(told(0).set(3, modulus), Check.NUMBER, "condition", 4, 3);
            Edge.refuses(told(6).set(3, modulus), Check.NUMBER, "condition", 4, 3);
        }
        Edge.says(34, "Throws `IllegalStateException` if there are 6");
        Edge.answers(told(5), 6, "condition", 4, 0);
        Edge.refuses(told(6), Check.STATE, "condition", 4, 0);
        Edge.refuses(State.some().fullConditions(), Check.STATE, "condition", 4, 0);
    }

    private static void promise35() {
        Edge.says(35, "Makes a register the least number, from 0 on, that keeps all conditions, and another one the least common"
            + " multiple of their moduli; without conditions 0 and 1.");
        solved(State.fresh(), 0, 1);
        solved(State.some().untold().set(5, Check.LEAST).set(6, Check.LEAST), 0, 1);
        solved(told(1), 0, 1);
        solved(told(6), 0, 1);
        solved(State.some().untold().told(0, 7), 0, 7);
        solved(State.some().untold().told(-1, 7), 6, 7);
        solved(State.some().fullConditions(), 23, 210);
        solved(State.some().untold().told(1, 4).told(3, 6), 9, 12);
        solved(State.some().untold().told(5, 6).told(5, 6).told(2, 3).told(1, 2), 5, 6);
        for (int register = 0; register < 8; register++) {
            Edge.says(35, TO);
            Edge.answers(State.some(), true, "solve", register, (register + 1) % 8);
            Edge.says(35, "- `multiple`: 0 to 7, another one");
            Edge.answers(State.some(), true, "solve", (register + 3) % 8, register);
        }
        Edge.says(35, "Returns whether there is such a number; if not, the registers stay.");
        Edge.tells(State.some().told(0, 3), false, "solve", 5, 6);
        Edge.tells(State.some().told(1, 2).told(2, 4), false, "solve", 5, 6);
        Edge.tells(State.some().untold().told(0, 1).told(0, 1).told(0, 1).told(0, 1).told(0, 2).told(1, 2), false, "solve", 5, 6);
        Edge.tells(State.some().untold().told(1, 4).told(2, 6), false, "solve", 5, 6);
        Edge.tells(State.some().untold().told(Check.LONGEST, Check.two(599)).told(Check.LEAST, Check.two(599)), false, "solve", 5, 6);
        Edge.tells(State.some().set(5, Check.LONGEST).set(6, Check.LEAST).told(0, 3), false, "solve", 5, 6);
        Residueworks x = State.some().program();
        x.solve(5, 6);
        Edge.same("solve leaves the conditions", true, x.solve(6, 5));
        Edge.same("the number again", 8, x.exact(6));
        Edge.same("the multiple again", 15, x.exact(5));
    }

    private static void promise35Several() {
        BigInteger below = Check.two(300).subtract(ONE);
        BigInteger above = Check.two(300).add(ONE);
        solved(State.some().untold().told(Check.LEAST, Check.two(599)).told(Check.LONGEST, big(2)).untold().told(-1, 2), 1, 2);
        solved(State.some().untold().told(Check.LONGEST, Check.two(599)), Check.two(599).subtract(ONE), Check.two(599));
        solved(State.some().untold().told(big(-1), below).told(big(-1), above), Check.LONGEST.subtract(ONE), Check.LONGEST);
        solved(State.some().untold().told(Check.two(598), Check.two(598)).told(Check.two(598), big(3)), Check.two(598),
            Check.two(598).multiply(big(3)));
        solved(State.some().untold().told(Check.LEAST, Check.LONGEST).told(Check.LEAST, below).told(Check.LEAST, above),
            Check.LONGEST.subtract(ONE), Check.LONGEST);
    }

    private static void promise35Refused() {
        BigInteger below = Check.two(300).subtract(ONE);
        BigInteger above = Check.two(300).add(ONE);
        State tooLong = State.some().untold().told(ONE, below).told(ONE, above).told(1, 2);
        Edge.says(35, NO_REGISTER);
        for (int beyond : BEYOND) {
            Edge.refuses(State.some(), Check.PLACE, "solve", beyond, 5);
            Edge.refuses(State.some(), Check.PLACE, "solve", 5, beyond);
            Edge.refuses(State.some(), Check.PLACE, "solve", beyond, beyond);
            Edge.refuses(State.some().told(0, 3), Check.PLACE, "solve", beyond, 5);
        }
        Edge.says(35, "Throws `IllegalArgumentException` if both are the same");
        for (int register = 0; register < 8; register++) {
            Edge.refuses(State.some(), Check.ARGUMENT, "solve", register, register);
            Edge.refuses(State.some().told(0, 3), Check.ARGUMENT, "solve", register, register);
            Edge.refuses(State.fresh(), Check.ARGUMENT, "solve", register, register);
        }
        Edge.says(35, "Throws `IllegalStateException` if there is one, and the multiple is TOO LONG");
        Edge.refuses(tooLong, Check.STATE, "solve", 5, 6);
        Edge.refuses(State.some().untold().told(0, 3).told(Check.LEAST, Check.two(599)), Check.STATE, "solve", 5, 6);
        Edge.refuses(State.some().untold().told(Check.LEAST, Check.two(599)).told(0, 3), Check.STATE, "solve", 5, 6);
        Edge.refuses(State.some().untold().told(ONE, Check.LONGEST).told(ONE, Check.LONGEST.subtract(ONE)), Check.STATE, "solve", 5, 6);
        // Its number would be short; its multiple is not.
        Edge.refuses(State.some().untold().told(0, 3).told(BigInteger.ZERO, Check.two(599)), Check.STATE, "solve", 5, 6);
        // Where there is none, nothing is too long, wherever the two that do not agree are told.
        Edge.tells(State.some().untold().told(ONE, below).told(ONE, above).told(1, 2).told(0, 2), false, "solve", 5, 6);
        Edge.tells(State.some().untold().told(1, 2).told(0, 2).told(ONE, below).told(ONE, above), false, "solve", 5, 6);
        Edge.tells(State.some().untold().told(1, 2).told(ONE, below).told(ONE, above).told(0, 2), false, "solve", 5, 6);
        Edge.tells(State.some().untold().told(ONE, Check.LONGEST).told(0, 2).told(big(2), Check.LONGEST), false, "solve", 5, 6);
    }

    private static void promise36() {
        Edge.says(36, "Takes all conditions away.");
        Residueworks x = State.some().fullConditions().program();
        x.forget();
        Edge.same("solve without conditions", true, x.solve(5, 6));
        Edge.same("its number", 0, x.exact(5));
        Edge.same("its multiple", 1, x.exact(6));
        Edge.same("condition after it", 1, x.condition(5, 6));
        Edge.says(36, "Returns how many there were.");
        Edge.tells(State.fresh(), 0, "forget");
        Edge.tells(told(0), 0, "forget");
        for (int count = 1; count <= 6; count++) {
            Edge.answers(told(count), count, "forget");
        }
    }
}
