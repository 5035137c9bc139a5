import java.math.BigInteger;

/** The edges that the document's "What it is" and "Terms" name. */
final class TermsEdges {
    private static final BigInteger ZERO = BigInteger.ZERO;
    private static final BigInteger ONE = BigInteger.ONE;
    private static final BigInteger OVER = Check.two(600);
    private static final BigInteger UNDER = Check.LEAST.subtract(ONE);
    private static final BigInteger[] EDGES = {ZERO, ONE, Check.big(-1), Check.big(2), Check.big(-2), Check.big(3), Check.big(64),
        Check.big(-65), Check.two(299), Check.two(300).negate(), Check.two(598), Check.two(599).subtract(ONE), Check.two(599),
        Check.two(599).negate(), Check.LONGEST.subtract(ONE), Check.LONGEST, Check.LEAST.add(ONE), Check.LEAST};

    private TermsEdges() {
    }

    static void run() {
        Edge.terms("Whole numbers of the JDK (java.math.BigInteger) in eight registers, and what their remainders do:"
            + " groups, several moduli at once, squares, roots, bits without end.");
        calls512();
        Edge.terms("THEOREM (of BigInteger, for all numbers that registers can have).");
        groups();
        severalModuli();
        squares();
        roots();
        bits();
        divisions();
        Edge.terms("Part 1, registers.");
        registers();
        tooLong();
        sameRegisters();
        lengths();
        textRowConditions();
        smallModuli();
        symbols();
    }

    private static void calls512() {
        Edge.terms("An object is used for at most 512 calls after it has been made; what later calls answer is free.");
        Residueworks filled = new Residueworks();
        for (int call = 1; call <= 511; call++) {
            Edge.same("call " + call, call, filled.type('a'));
        }
        Edge.same("call 512", 511, filled.erase());
        Residueworks refused = Check.with(Check.LONGEST);
        String place = Calls.thrown(Check.PLACE);
        for (int call = 11; call <= 511; call++) {
            Edge.same("call " + call, place, Calls.answer(refused, "put", 8, 0));
        }
        Edge.same("call 512", 600, refused.tells(1, 'l'));
        Residueworks busy = Check.with(Check.LONGEST, Check.LEAST, Check.two(599).subtract(ONE));
        for (int call = 31; call <= 511; call++) {
            busy.modPower(4, 2, 1, 3);
        }
        Edge.same("call 512", true, busy.isTrue(1, 2, 3));
    }

    // the theorem

    private static void groups() {
        Edge.terms("(1) For m above 1 the numbers from 0 to m - 1 that are prime to m are a group by multiply() and mod(m):"
            + " modInverse() gives the one that takes a to 1, modPow() takes sums of exponents to products and products to"
            + " powers, also below 0; the order of each divides how many there are, so a to that power is 1.");
        BigInteger[] moduli = {Check.big(2), Check.big(3), Check.big(4), Check.big(4095), Check.big(4096), Check.big(4097),
            Check.two(598), Check.two(599), Check.LONGEST.subtract(ONE), Check.LONGEST};
        for (BigInteger m : moduli) {
            for (BigInteger a : EDGES) {
                if (a.gcd(m).equals(ONE)) {
                    inverses(a, m);
                    powers(a, m);
                    orders(a, m);
                }
            }
        }
    }

    private static void inverses(BigInteger a, BigInteger m) {
        Residueworks x = Check.with(a, m);
        x.inverse(3, 1, 2);
        BigInteger inverse = Check.get(x, 3);
        Edge.same("modInverse of " + a + " by " + m + " is below m", true, inverse.signum() >= 0 && inverse.compareTo(m) < 0);
        Edge.same("modInverse of " + a + " by " + m + " times it", ONE, inverse.multiply(a).mod(m));
        x.inverse(4, 3, 2);
        Edge.same("and back", a.mod(m), Check.get(x, 4));
    }

    private static BigInteger power(BigInteger a, long exponent, BigInteger m) {
        Residueworks x = Check.with(a, Check.big(exponent), m);
        x.modPower(4, 1, 2, 3);
        return Check.get(x, 4);
    }

    private static void powers(BigInteger a, BigInteger m) {
        int[] exponents = {0, 1, -1, 2, -7, 64};
        for (int e : exponents) {
            for (int f : exponents) {
                BigInteger product = power(a, e, m).multiply(power(a, f, m)).mod(m);
                Edge.same(a + " to " + e + " and " + f + " by " + m, product, power(a, e + f, m));
                Edge.same(a + " to " + e + " times " + f + " by " + m, power(power(a, e, m), f, m), power(a, (long) e * f, m));
            }
        }
    }

    private static void orders(BigInteger a, BigInteger m) {
        if (m.compareTo(Check.big(4096)) <= 0) {
            Residueworks x = Check.with(a, m);
            int units = x.units(2);
            int order = x.order(1, 2);
            Edge.same("order of " + a + " by " + m + " divides", 0, units % order);
            Edge.same(a + " to its order by " + m, ONE, power(a, order, m));
            Edge.same(a + " to how many by " + m, ONE, power(a, units, m));
        }
    }

    private static void severalModuli() {
        Edge.terms("(2) x that leaves told remainders by told moduli are just one number, and it more or less multiples of their"
            + " least common multiple, or none; there is one if, and only if, by each two of the moduli both remainders"
            + " leave the same by gcd().");
        int most = 6;
        for (int code = 0; code < most * most * most; code++) {
            int[] moduli = {1 + code % most, 1 + code / most % most, 1 + code / most / most};
            int all = moduli[0] * moduli[1] * moduli[2];
            for (int rests = 0; rests < all; rests++) {
                severalModuli(moduli, new int[] {rests % moduli[0], rests / moduli[0] % moduli[1], rests / moduli[0] / moduli[1]});
            }
        }
    }

    private static void severalModuli(int[] moduli, int[] rests) {
        Residueworks x = new Residueworks();
        boolean agree = true;
        long multiple = 1;
        for (int i = 0; i < 3; i++) {
            x.put(1, rests[i]);
            x.put(2, moduli[i]);
            x.condition(1, 2);
            multiple = multiple / gcd(multiple, moduli[i]) * moduli[i];
            for (int j = 0; j < i; j++) {
                agree &= (rests[i] - rests[j]) % gcd(moduli[i], moduli[j]) == 0;
            }
        }
        String told = java.util.Arrays.toString(rests) + " by " + java.util.Arrays.toString(moduli);
        Edge.same(told, agree, x.solve(3, 4));
        if (agree) {
            long number = x.exact(3);
            Edge.same("the multiple of " + told, multiple, (long) x.exact(4));
            Edge.same("the number of " + told + " is below it", true, number >= 0 && number < multiple);
            for (int i = 0; i < 3; i++) {
                Edge.same(told + " is kept", (long) rests[i], number % moduli[i]);
            }
        }
    }

    private static long gcd(long one, long other) {
        return other == 0 ? one : gcd(other, one % other);
    }

    private static void squares() {
        Edge.terms("(3) For an odd prime p, a is a square by p if, and only if, a to the power (p - 1) / 2 leaves 1 or 0; the"
            + " symbol of a product is the product of symbols, and for odd p, q above 0 without a common divisor the"
            + " symbols of p by q and of q by p are unlike just if both leave 3 by 4.");
        for (int prime : new int[] {3, 5, 7, 13, 1048573}) {
            for (BigInteger a : EDGES) {
                square(a, prime);
            }
            for (int a = -prime % 100; a < 30; a++) {
                square(Check.big(a), prime);
            }
        }
        for (int p = 1; p < 80; p += 2) {
            for (int q = 1; q < 80; q += 2) {
                Residueworks x = Check.with(Check.big(p), Check.big(q), Check.big(p * q));
                if (gcd(p, q) == 1) {
                    boolean unlike = p % 4 == 3 && q % 4 == 3;
                    Edge.same("symbols of " + p + " and " + q, unlike ? -1 : 1, x.symbol(1, 2) * x.symbol(2, 1));
                }
                x.put(4, 2 * p - q);
                x.put(5, (2 * p - q) * (long) q);
                Edge.same("symbol of a product by " + p, x.symbol(4, 1) * x.symbol(2, 1), x.symbol(5, 1));
            }
        }
    }

    private static void square(BigInteger a, int prime) {
        Residueworks x = Check.with(a, Check.big(prime), Check.big((prime - 1) / 2));
        x.modPower(4, 1, 3, 2);
        int left = x.exact(4);
        int symbol = x.symbol(1, 2);
        Edge.same("symbol of " + a + " by " + prime, left == prime - 1 ? -1 : left, symbol);
        String answer = Calls.answer(x, "modRoot", 5, 1, 2);
        Edge.same("a root of " + a + " by " + prime, symbol >= 0, !answer.equals(Calls.thrown(Check.NONE)));
        if (symbol >= 0) {
            BigInteger root = Check.get(x, 5);
            Edge.same("its square", a.mod(Check.big(prime)), root.multiply(root).mod(Check.big(prime)));
            Edge.same("the least one", true, root.compareTo(Check.big(prime).subtract(root)) < 0);
        }
    }

    private static void roots() {
        Edge.terms("(4) r = root of a by k: r to the power k is at most a, and r + 1 to it is more; sqrt() is that by 2.");
        for (BigInteger a : EDGES) {
            for (int by = 1; by <= 64 && a.signum() >= 0; by++) {
                Residueworks x = Check.with(a);
                x.root(2, 1, by);
                BigInteger root = Check.get(x, 2);
                Edge.same("root of " + a + " by " + by + " is not too large", true, root.pow(by).compareTo(a) <= 0);
                Edge.same("root of " + a + " by " + by + " is not too small", true, root.add(ONE).pow(by).compareTo(a) > 0);
                x.alone('q', 3, 1);
                Edge.same("sqrt of " + a, true, by != 2 || root.equals(Check.get(x, 3)));
            }
        }
    }

    private static BigInteger done(char sign, BigInteger a, BigInteger b) {
        Residueworks x = Check.with(a, b);
        x.does(sign, 3, 1, 2);
        return Check.get(x, 3);
    }

    private static void bits() {
        Edge.terms("(5) Bits are those of two's complement without end: not is - x - 1; and + or is x + y, and + xor is or;"
            + " shiftLeft(n) multiplies by 2 to the power n, shiftRight(n) divides by it, rounded down; bitLength() is the"
            + " least n with - 2 to the power n at most x, and x less than 2 to the power n; toByteArray() and back is x.");
        for (BigInteger a : EDGES) {
            bitsOfOne(a);
            for (BigInteger b : EDGES) {
                BigInteger and = done('&', a, b);
                BigInteger or = done('|', a, b);
                Edge.same("and + or of " + a + ", " + b, a.add(b), and.add(or));
                Edge.same("and + xor of " + a + ", " + b, or, and.add(done('^', a, b)));
                Edge.same("and not of " + a + ", " + b, a.subtract(and), done('n', a, b));
            }
        }
    }

    private static void bitsOfOne(BigInteger a) {
        Residueworks x = Check.with(a);
        x.alone('~', 2, 1);
        Edge.same("not of " + a, a.negate().subtract(ONE), Check.get(x, 2));
        int length = x.tells(1, 'l');
        Edge.same("the length of " + a, true, fits(a, length) && (length == 0 || !fits(a, length - 1)));
        x.toRow(1);
        x.fromRow(3);
        Edge.same("to the row and back of " + a, a, Check.get(x, 3));
        for (int by = 0; by <= 700; by += by % 100 == 99 || by % 100 == 0 ? 1 : 14) {
            Residueworks y = Check.with(a);
            BigInteger[] parts = a.divideAndRemainder(Check.two(by));
            y.shifts(2, 1, -by);
            Edge.same(a + " down by " + by, parts[1].signum() < 0 ? parts[0].subtract(ONE) : parts[0], Check.get(y, 2));
            BigInteger up = a.multiply(Check.two(by));
            if (fits(up, 600)) {
                y.shifts(2, 1, by);
                Edge.same(a + " up by " + by, up, Check.get(y, 2));
            } else {
                Edge.same(a + " up by " + by, Calls.thrown(Check.STATE), Calls.answer(y, "shifts", 2, 1, by));
            }
        }
    }

    private static boolean fits(BigInteger number, int length) {
        BigInteger bound = Check.two(length);
        return bound.negate().compareTo(number) <= 0 && number.compareTo(bound) < 0;
    }

    private static void divisions() {
        Edge.terms("(6) a is divide() times b and remainder(), which is nearer to 0 than b and not of the other sign than a;"
            + " mod() is from 0 to m - 1; text by each radix and back is x.");
        for (BigInteger a : EDGES) {
            for (BigInteger b : EDGES) {
                boolean tooLong = a.equals(Check.LEAST) && b.equals(Check.big(-1));
                if (b.signum() != 0 && !tooLong) {
                    BigInteger rest = done('%', a, b);
                    Edge.same(a + " divide " + b, a, done('/', a, b).multiply(b).add(rest));
                    Edge.same(a + " remainder " + b + " is near to 0", true, rest.abs().compareTo(b.abs()) < 0);
                    Edge.same(a + " remainder " + b + " has no other sign", true, rest.signum() * a.signum() >= 0);
                }
                if (b.signum() > 0) {
                    BigInteger left = done('m', a, b);
                    Edge.same(a + " mod " + b + " is from 0 to " + b, true, left.signum() >= 0 && left.compareTo(b) < 0);
                    Edge.same(a + " mod " + b, ZERO, a.subtract(left).remainder(b));
                }
            }
            for (int radix = 2; radix <= 36; radix++) {
                textAndBack(a, radix);
            }
        }
    }

    /** Where the signs, times the bits of the radix less 1, are more than 640, the text is not read back. */
    private static void textAndBack(BigInteger number, int radix) {
        Residueworks x = Check.with(number);
        int signs = x.write(1, radix);
        if (signs * Check.big(radix - 1).bitLength() <= 640) {
            Edge.same(number + " by " + radix + " and back", number.bitLength(), x.read(2, radix));
            Edge.same(number + " by " + radix + " and back", number, Check.get(x, 2));
        } else {
            Edge.same(number + " by " + radix + " and back", Calls.thrown(Check.STATE), Calls.answer(x, "read", 2, radix));
        }
    }

    // part 1

    private static void registers() {
        Edge.terms("There are the registers 0 to 7, each a whole number of at most 600 bits by bitLength(), 0 at first.");
        for (int register = 0; register < 8; register++) {
            Edge.tells(State.fresh(), 0, "exact", register);
            Edge.tells(State.fresh().set(register, Check.LONGEST), 600, "tells", register, 'l');
            Edge.tells(State.fresh().set(register, Check.LEAST), 600, "tells", register, 'l');
            Edge.refuses(State.some().set(register, Check.LONGEST), Check.STATE, "longer", register, 0);
            Edge.refuses(State.some().set(register, Check.LEAST), Check.STATE, "longer", register, -1);
        }
        for (int register : new int[] {-1, 8, 16, 256, Integer.MIN_VALUE, Integer.MAX_VALUE}) {
            Edge.refuses(State.some(), Check.PLACE, "put", register, 1);
            Edge.refuses(State.some(), Check.PLACE, "tells", register, 's');
        }
    }

    private static void tooLong() {
        Edge.terms("What would come to a register and has more is TOO LONG: IllegalStateException.");
        State most = State.some().set(1, Check.LONGEST).set(2, 1).set(3, Check.LEAST).set(4, -1).set(5, Check.two(300))
            .set(6, Check.two(300).negate());
        Edge.refuses(most, Check.STATE, "does", '+', 0, 1, 2);
        Edge.refuses(most, Check.STATE, "does", '+', 0, 3, 4);
        Edge.refuses(most, Check.STATE, "does", '-', 0, 1, 4);
        Edge.refuses(most, Check.STATE, "does", '-', 0, 3, 2);
        Edge.refuses(most, Check.STATE, "does", '*', 0, 5, 5);
        Edge.writes(most, 0, Check.LEAST, "does", '*', 0, 5, 6);
        Edge.refuses(most, Check.STATE, "does", '*', 0, 6, 6);
        Edge.refuses(most, Check.STATE, "does", '/', 0, 3, 4);
        Edge.refuses(most, Check.STATE, "does", 'g', 0, 3, 3);
        Edge.refuses(most, Check.STATE, "does", 'c', 0, 3, 2);
        Edge.refuses(most, Check.STATE, "alone", '-', 0, 3);
        Edge.refuses(most, Check.STATE, "alone", 'a', 0, 3);
        Edge.refuses(most, Check.STATE, "shifts", 0, 1, 1);
        Edge.refuses(most, Check.STATE, "shifts", 0, 3, 1);
        Edge.refuses(most, Check.STATE, "power", 0, 5, 2);
        Edge.refuses(most, Check.STATE, "divides", 0, 7, 3, 4);
        Edge.refuses(State.some().text(OVER.toString(16)), Check.STATE, "read", 0, 16);
        Edge.refuses(State.some().text(UNDER.toString(16)), Check.STATE, "read", 0, 16);
        Edge.refuses(State.some().row(bytes(OVER)), Check.STATE, "fromRow", 0);
        Edge.refuses(State.some().row(bytes(UNDER)), Check.STATE, "fromRow", 0);
        Edge.refuses(State.some().untold().told(ZERO, Check.two(599)).told(1, 3), Check.STATE, "solve", 0, 1);
    }

    static int[] bytes(BigInteger number) {
        byte[] bytes = number.toByteArray();
        int[] numbers = new int[bytes.length];
        for (int i = 0; i < bytes.length; i++) {
            numbers[i] = bytes[i];
        }
        return numbers;
    }

    private static void sameRegisters() {
        Edge.terms("Registers that are told can be the same ones; all is read ahead of what is written.");
        State small = State.some().set(0, 5).set(2, -8).set(5, 7).set(7, 2);
        State large = State.some().set(0, Check.LEAST).set(2, Check.LONGEST).set(5, Check.some(299, 1).setBit(0)).set(7, Check.some(300, 2));
        int[] some = {0, 2, 5, 7};
        for (int one : some) {
            for (int other : some) {
                twoRegisters(small, one, other);
                twoRegisters(large, one, other);
                for (int third : some) {
                    threeRegisters(small, one, other, third);
                    threeRegisters(large, one, other, third);
                    for (int fourth : some) {
                        Edge.agrees(small, "divides", one, other, third, fourth);
                        Edge.agrees(large, "divides", one, other, third, fourth);
                        Edge.agrees(small, "modPower", one, other, third, fourth);
                        Edge.agrees(large, "modPower", one, other, third, fourth);
                    }
                }
            }
        }
    }

    private static void twoRegisters(State state, int one, int other) {
        for (String name : new String[] {"copy", "compare", "symbol", "order", "condition", "solve"}) {
            Edge.agrees(state, name, one, other);
        }
        for (char sign : "-a~q".toCharArray()) {
            Edge.agrees(state, "alone", sign, one, other);
        }
        for (int by : new int[] {-30, 0, 1, 3}) {
            Edge.agrees(state, "shifts", one, other, by);
            Edge.agrees(state, "power", one, other, by);
            Edge.agrees(state, "root", one, other, by);
        }
    }

    private static void threeRegisters(State state, int one, int other, int third) {
        for (char sign : "+-*/%mgc&|^n<>".toCharArray()) {
            Edge.agrees(state, "does", sign, one, other, third);
        }
        Edge.agrees(state, "inverse", one, other, third);
        Edge.agrees(state, "modRoot", one, other, third);
        Edge.agrees(state, "isTrue", one, other, third);
    }

    private static void lengths() {
        Edge.terms("What a call returns as a length is bitLength() of the register that it wrote.");
        State state = State.some().set(1, 0).set(2, -1).set(3, 1).set(4, -2).set(5, Check.LONGEST).set(6, Check.LEAST).set(7, -3);
        int[] lengths = {0, 0, 1, 1, 600, 600, 2};
        for (int from = 1; from <= 7; from++) {
            Edge.answers(state, lengths[from - 1], "copy", 0, from);
            Edge.answers(state, lengths[from - 1], "alone", '~', 0, from);
            Edge.answers(state, lengths[from - 1], "power", 0, from, 1);
            Edge.answers(state, lengths[from - 1], "shifts", 0, from, 0);
        }
        Edge.writes(state, 0, -1, "shifts", 0, 7, -2);
        Edge.writes(state, 0, 0, "does", '-', 0, 6, 6);
        Edge.writes(state, 0, 0, "does", '/', 0, 3, 7);
        Edge.answers(state, 1, "divides", 0, 1, 7, 4);
        Edge.answers(state, 0, "divides", 0, 1, 4, 7);
    }

    // parts 2 and 3

    private static void textRowConditions() {
        Edge.terms("Part 2, the text has at most 610 signs, 33 to 126, none at first; the row has at most 80 bytes, none at first;"
            + " up to 6 conditions are told, each a modulus and a remainder, none at first.");
        Edge.answers(State.fresh(), 0, "erase");
        Edge.answers(State.fresh(), 0, "clearRow");
        Edge.answers(State.fresh(), 0, "forget");
        Edge.answers(State.some().text(Check.LEAST, 2, "!~!~!~!"), 610, "type", '~');
        Edge.refuses(State.some().fullText(), Check.STATE, "type", '~');
        Edge.answers(State.some().fullText(), 610, "erase");
        Edge.answers(State.some().row(Check.LONGEST, 1, 2, 3), 80, "push", 4);
        Edge.refuses(State.some().fullRow(), Check.STATE, "push", 4);
        Edge.answers(State.some().fullRow(), 80, "clearRow");
        State five = State.some().untold().told(1, 2).told(1, 2).told(1, 2).told(1, 2).told(1, 2);
        Edge.answers(five, 6, "condition", 0, 4);
        Edge.refuses(State.some().fullConditions(), Check.STATE, "condition", 0, 4);
        Edge.answers(State.some().fullConditions(), 6, "forget");
    }

    private static void smallModuli() {
        Edge.terms("Part 3, order, units and roots by a modulus are asked for small ones alone: from 2 to 4096, a prime from 3 to"
            + " 1048575, as the calls tell.");
        for (int least : new int[] {1, 2}) {
            State state = State.some().set(1, 1).set(2, least);
            if (least == 2) {
                Edge.tells(state, 1, "units", 2);
                Edge.tells(state, 1, "order", 1, 2);
                Edge.tells(state, 1, "generator", 2);
            } else {
                Edge.refuses(state, Check.NUMBER, "units", 2);
                Edge.refuses(state, Check.NUMBER, "order", 1, 2);
                Edge.refuses(state, Check.NUMBER, "generator", 2);
            }
            Edge.refuses(state, Check.NUMBER, "modRoot", 0, 1, 2);
        }
        Edge.tells(State.some().set(1, 3).set(2, 4096), 2048, "units", 2);
        Edge.tells(State.some().set(1, 3).set(2, 4096), 1024, "order", 1, 2);
        Edge.tells(State.some().set(1, 3).set(2, 4096), 0, "generator", 2);
        Edge.refuses(State.some().set(2, 4097), Check.NUMBER, "units", 2);
        Edge.refuses(State.some().set(2, 4097), Check.NUMBER, "order", 1, 2);
        Edge.refuses(State.some().set(2, 4097), Check.NUMBER, "generator", 2);
        Edge.writes(State.some().set(1, 4).set(2, 3), 0, 1, "modRoot", 0, 1, 2);
        Edge.writes(State.some().set(1, 9).set(2, 1048573), 0, 3, "modRoot", 0, 1, 2);
        Edge.refuses(State.some().set(1, 9).set(2, 1048583), Check.NUMBER, "modRoot", 0, 1, 2);
    }

    private static void symbols() {
        Edge.terms("The symbol of a by an odd n above 0 is 0 if they have a common divisor above 1; otherwise it is the product,"
            + " over the primes p that multiply to n, each as often as it stands there, of 1 if some square leaves by p what"
            + " a leaves, and -1 if not; by 1 it is 1.");
        long[][] dues = {{0, 1, 1}, {1, 1, 1}, {-1, 1, 1}, {6, 1, 1}, {0, 3, 0}, {1, 3, 1}, {2, 3, -1}, {-1, 3, -1}, {3, 3, 0},
            {2, 9, 1}, {3, 9, 0}, {6, 9, 0}, {2, 27, -1}, {2, 15, 1}, {7, 15, -1}, {5, 15, 0}, {2, 7, 1}, {3, 7, -1},
            {-4, 7, -1}, {10, 105, 0}, {2, 105, 1}, {11, 105, -1}};
        for (long[] due : dues) {
            Edge.tells(State.some().set(1, due[0]).set(2, due[1]), due[2], "symbol", 1, 2);
        }
        for (BigInteger a : EDGES) {
            Edge.tells(State.some().set(1, a).set(2, 1), 1, "symbol", 1, 2);
        }
    }

    // what is said of exceptions is tested behind the promises, of all calls at once
}
