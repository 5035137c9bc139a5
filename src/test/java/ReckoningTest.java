import java.math.BigInteger;

/** Promises 9 to 15: does, alone, shifts, bit, setBit, power, divides. */
public final class ReckoningTest {
    private static final BigInteger[] NUMBERS = {BigInteger.ZERO, BigInteger.ONE, Check.big(-1), Check.big(2), Check.big(-3),
        Check.two(30), Check.two(30).subtract(BigInteger.ONE), Check.two(60).negate(), Check.some(61, 1), Check.some(299, 2),
        Check.some(300, 3).negate(), Check.some(301, 4), Check.some(570, 5), Check.some(600, 6), Check.some(599, 7).negate(),
        Check.two(300), Check.two(300).negate(), Check.two(599), Check.LONGEST, Check.LEAST, Check.LEAST.add(BigInteger.ONE),
        Check.two(600).subtract(Check.two(300)), Check.two(330).subtract(Check.two(29))};

    public static void main(String[] args) {
        promise9();
        promise9Wrong();
        promise10();
        promise11();
        promise12();
        promise13();
        promise14();
        promise15();
        divisionsSeldomRight();
        Check.finish();
    }

    private static BigInteger due(char sign, BigInteger a, BigInteger b) {
        switch (sign) {
            case '+': return a.add(b);
            case '-': return a.subtract(b);
            case '*': return a.multiply(b);
            case '/': return b.signum() == 0 ? null : a.divide(b);
            case '%': return b.signum() == 0 ? null : a.remainder(b);
            case 'm': return b.signum() <= 0 ? null : a.mod(b);
            case 'g': return a.gcd(b);
            case 'c': return a.signum() * b.signum() == 0 ? BigInteger.ZERO : a.multiply(b).abs().divide(a.gcd(b));
            case '&': return a.and(b);
            case '|': return a.or(b);
            case '^': return a.xor(b);
            case 'n': return a.andNot(b);
            case '<': return a.min(b);
            default: return a.max(b);
        }
    }

    private static void promise9() {
        for (char sign : "+-*/%mgc&|^n<>".toCharArray()) {
            for (BigInteger a : NUMBERS) {
                for (BigInteger b : NUMBERS) {
                    Residueworks x = Check.with(a, b);
                    String told = a + " " + sign + " " + b;
                    BigInteger want = due(sign, a, b);
                    if (want == null) {
                        Check.fails(told, x, Check.NUMBER, () -> x.does(sign, 3, 1, 2));
                    } else if (want.bitLength() > 600) {
                        Check.fails(told, x, Check.STATE, () -> x.does(sign, 3, 1, 2));
                    } else {
                        Check.wrote(told, x, 3, want, x.does(sign, 3, 1, 2));
                        Check.wrote(told + " to the one", x, 1, want, x.does(sign, 1, 1, 2));
                        Check.set(x, 1, a);
                        Check.wrote(told + " to the other", x, 2, want, x.does(sign, 2, 1, 2));
                    }
                }
            }
        }
        Residueworks x = new Residueworks();
        Check.set(x, 4, Check.some(280, 9));
        Check.wrote("a square", x, 4, Check.some(280, 9).pow(2), x.does('*', 4, 4, 4));
        Check.wrote("a number less itself", x, 4, BigInteger.ZERO, x.does('-', 4, 4, 4));
    }

    private static void promise9Wrong() {
        Residueworks x = new Residueworks();
        Check.set(x, 1, Check.LEAST);
        x.put(2, -1);
        Check.fails("the least by -1", x, Check.STATE, () -> x.does('/', 0, 1, 2));
        Check.fails("the least less 1", x, Check.STATE, () -> x.does('+', 0, 1, 2));
        Check.fails("gcd of the least and 0", x, Check.STATE, () -> x.does('g', 0, 1, 0));
        Check.fails("gcd of the least and itself", x, Check.STATE, () -> x.does('g', 0, 1, 1));
        Check.fails("lcm of the least and 1", x, Check.STATE, () -> x.does('c', 0, 1, 2));
        Check.fails("no sign x", x, Check.ARGUMENT, () -> x.does('x', 0, 1, 2));
        Check.fails("no sign M", x, Check.ARGUMENT, () -> x.does('M', 0, 1, 2));
        Check.fails("no sign of alone", x, Check.ARGUMENT, () -> x.does('~', 0, 1, 2));
        Check.fails("a sign far off", x, Check.ARGUMENT, () -> x.does((char) ('+' + 256), 0, 1, 2));
        Check.fails("to 8", x, Check.PLACE, () -> x.does('+', 8, 1, 2));
        Check.fails("one -1", x, Check.PLACE, () -> x.does('+', 0, -1, 2));
        Check.fails("other 8", x, Check.PLACE, () -> x.does('+', 0, 1, 8));
        Check.fails("no register and no sign", x, Check.PLACE, () -> x.does('x', 0, 1, 8));
        Check.fails("no register and divided by 0", x, Check.PLACE, () -> x.does('/', 8, 1, 0));
        Check.fails("mod by a number below 0", x, Check.NUMBER, () -> x.does('m', 0, 1, 2));
        Check.fails("mod by 0", x, Check.NUMBER, () -> x.does('m', 0, 1, 0));
    }

    private static void promise10() {
        for (BigInteger a : NUMBERS) {
            Residueworks x = new Residueworks();
            Check.set(x, 6, a);
            if (a.equals(Check.LEAST)) {
                Check.fails("negate of the least", x, Check.STATE, () -> x.alone('-', 0, 6));
                Check.fails("abs of the least", x, Check.STATE, () -> x.alone('a', 0, 6));
            } else {
                Check.wrote("negate " + a, x, 0, a.negate(), x.alone('-', 0, 6));
                Check.wrote("abs " + a, x, 0, a.abs(), x.alone('a', 0, 6));
            }
            Check.wrote("not " + a, x, 0, a.not(), x.alone('~', 0, 6));
            if (a.signum() < 0) {
                Check.fails("sqrt " + a, x, Check.NUMBER, () -> x.alone('q', 0, 6));
            } else {
                Check.wrote("sqrt " + a, x, 0, a.sqrt(), x.alone('q', 0, 6));
            }
            Check.wrote("not of itself", x, 6, a.not(), x.alone('~', 6, 6));
        }
        Residueworks x = new Residueworks();
        Check.fails("no sign +", x, Check.ARGUMENT, () -> x.alone('+', 0, 6));
        Check.fails("no sign Q", x, Check.ARGUMENT, () -> x.alone('Q', 0, 6));
        Check.fails("to 8", x, Check.PLACE, () -> x.alone('-', 8, 6));
        Check.fails("from -1, no sign", x, Check.PLACE, () -> x.alone('+', 0, -1));
    }

    private static void promise11() {
        for (BigInteger a : NUMBERS) {
            for (int by : new int[] {-700, -699, -601, -600, -599, -301, -60, -31, -30, -29, -1, 0, 1, 29, 30, 31, 299, 300, 301, 600, 700}) {
                Residueworks x = Check.with(a);
                BigInteger want = a.shiftLeft(by);
                if (want.bitLength() > 600) {
                    Check.fails(a + " by " + by, x, Check.STATE, () -> x.shifts(0, 1, by));
                } else {
                    Check.wrote(a + " by " + by, x, 0, want, x.shifts(0, 1, by));
                    Check.same("the shifted one stays", a, Check.get(x, 1));
                }
            }
        }
        Residueworks x = new Residueworks();
        x.put(2, -1);
        Check.wrote("-1 by 600", x, 2, Check.LEAST, x.shifts(2, 2, 600));
        Check.wrote("the least back", x, 2, Check.big(-1), x.shifts(2, 2, -700));
        Check.fails("-1 by 601", x, Check.STATE, () -> x.shifts(2, 2, 601));
        Check.wrote("0 by 700", x, 3, BigInteger.ZERO, x.shifts(3, 4, 700));
        Check.fails("by 701", x, Check.ARGUMENT, () -> x.shifts(3, 4, 701));
        Check.fails("by -701", x, Check.ARGUMENT, () -> x.shifts(3, 4, -701));
        Check.fails("by the least int", x, Check.ARGUMENT, () -> x.shifts(3, 4, Integer.MIN_VALUE));
        Check.fails("too long and out of range", x, Check.ARGUMENT, () -> x.shifts(3, 2, 701));
        Check.fails("to 8", x, Check.PLACE, () -> x.shifts(8, 4, 701));
        Check.fails("from -1", x, Check.PLACE, () -> x.shifts(0, -1, 1));
    }

    private static void promise12() {
        for (BigInteger a : NUMBERS) {
            Residueworks x = Check.with(a);
            for (int at = 0; at <= 700; at++) {
                x = at % 400 == 0 ? Check.with(a) : x;
                Check.same(a + " bit " + at, a.testBit(at), x.bit(1, at));
            }
        }
        Residueworks x = Check.with(Check.some(77, 1));
        Check.fails("bit -1", x, Check.ARGUMENT, () -> x.bit(4, -1));
        Check.fails("bit 701", x, Check.ARGUMENT, () -> x.bit(4, 701));
        Check.fails("bit of 8", x, Check.PLACE, () -> x.bit(8, 701));
        Check.fails("bit of -1", x, Check.PLACE, () -> x.bit(-1, 0));
    }

    private static void promise13() {
        for (BigInteger a : NUMBERS) {
            for (int at : new int[] {0, 1, 29, 30, 31, 59, 60, 299, 300, 598, 599}) {
                Residueworks x = new Residueworks();
                Check.set(x, 4, a);
                Check.wrote(a + " set " + at, x, 4, a.setBit(at), x.setBit(4, at, '1'));
                Check.set(x, 4, a);
                Check.wrote(a + " clear " + at, x, 4, a.clearBit(at), x.setBit(4, at, '0'));
                Check.set(x, 4, a);
                Check.wrote(a + " flip " + at, x, 4, a.flipBit(at), x.setBit(4, at, 'f'));
            }
        }
        Residueworks x = Check.with(Check.some(77, 1));
        Check.fails("setBit 600", x, Check.ARGUMENT, () -> x.setBit(4, 600, '1'));
        Check.fails("setBit -1", x, Check.ARGUMENT, () -> x.setBit(4, -1, '1'));
        Check.fails("setBit how 2", x, Check.ARGUMENT, () -> x.setBit(4, 0, '2'));
        Check.fails("setBit how F", x, Check.ARGUMENT, () -> x.setBit(4, 0, 'F'));
        Check.fails("setBit how 1 as a number", x, Check.ARGUMENT, () -> x.setBit(4, 0, (char) 1));
        Check.fails("setBit of 8", x, Check.PLACE, () -> x.setBit(8, 600, '2'));
        Check.fails("setBit of -1", x, Check.PLACE, () -> x.setBit(-1, 0, '1'));
    }

    private static void promise14() {
        for (BigInteger a : NUMBERS) {
            for (int exponent = 0; exponent <= 64; exponent++) {
                int by = exponent;
                BigInteger want = a.pow(by);
                Residueworks x = Check.with(a, a);
                if (want.bitLength() > 600) {
                    Check.fails(a + " to " + by, x, Check.STATE, () -> x.power(0, 2, by));
                } else {
                    Check.wrote(a + " to " + by, x, 2, want, x.power(2, 2, by));
                }
            }
        }
        for (int bits : new int[] {8, 9, 10, 12, 20, 24, 40, 100, 120, 200}) {
            for (int by = 2; by <= 64; by++) {
                BigInteger a = Check.two(bits).negate();
                int exponent = by;
                Residueworks x = Check.with(a, a);
                if (a.pow(by).bitLength() > 600) {
                    Check.fails(a + " to " + by, x, Check.STATE, () -> x.power(0, 2, exponent));
                } else {
                    Check.wrote(a + " to " + by, x, 0, a.pow(by), x.power(0, 2, by));
                }
            }
        }
        Residueworks x = Check.with(Check.some(77, 1), Check.big(3));
        Check.fails("to -1", x, Check.ARGUMENT, () -> x.power(0, 2, -1));
        Check.fails("to 65", x, Check.ARGUMENT, () -> x.power(0, 2, 65));
        Check.fails("to the least int", x, Check.ARGUMENT, () -> x.power(0, 2, Integer.MIN_VALUE));
        Check.fails("register 8", x, Check.PLACE, () -> x.power(8, 2, 65));
        Check.fails("register -1", x, Check.PLACE, () -> x.power(0, -1, 0));
    }

    private static void promise15() {
        for (BigInteger a : NUMBERS) {
            for (BigInteger b : NUMBERS) {
                Residueworks x = Check.with(a, b);
                String told = a + " divides " + b;
                if (b.signum() == 0) {
                    Check.fails(told, x, Check.NUMBER, () -> x.divides(3, 4, 1, 2));
                } else if (a.equals(Check.LEAST) && b.equals(Check.big(-1))) {
                    Check.fails(told, x, Check.STATE, () -> x.divides(3, 4, 1, 2));
                } else {
                    BigInteger[] want = a.divideAndRemainder(b);
                    Check.wrote(told, x, 3, want[0], x.divides(3, 4, 1, 2));
                    Check.same(told + " rest", want[1], Check.get(x, 4));
                    Check.wrote(told + " to themselves", x, 2, want[0], x.divides(2, 1, 1, 2));
                    Check.same(told + " rest to itself", want[1], Check.get(x, 1));
                }
            }
        }
        Residueworks x = new Residueworks();
        x.put(5, 9);
        Check.fails("the same one", x, Check.ARGUMENT, () -> x.divides(3, 3, 5, 5));
        Check.fails("the same one, by 0", x, Check.ARGUMENT, () -> x.divides(3, 3, 5, 7));
        Check.fails("the same one, no register", x, Check.PLACE, () -> x.divides(8, 8, 5, 7));
        Check.fails("rest 8", x, Check.PLACE, () -> x.divides(3, 8, 5, 5));
        Check.fails("one -1", x, Check.PLACE, () -> x.divides(3, 4, -1, 5));
        Check.fails("other 8", x, Check.PLACE, () -> x.divides(3, 4, 5, 8));
        Check.wrote("by itself", x, 5, BigInteger.ONE, x.divides(5, 6, 5, 5));
    }

    /** Digits of extreme values, where the guess of a quotient's digit is wrong at all seldom. */
    private static void divisionsSeldomRight() {
        for (int bits : new int[] {30, 32}) {
            BigInteger[] digits = {BigInteger.ZERO, BigInteger.ONE, Check.two(bits - 1), Check.two(bits - 1).subtract(BigInteger.ONE),
                Check.two(bits).subtract(BigInteger.ONE), Check.two(bits).subtract(Check.big(2)), Check.two(bits - 1).add(BigInteger.ONE)};
            int all = digits.length;
            for (int i = 0; i < all * all * all * all; i++) {
                for (int j = 1; j < all * all * all; j++) {
                    if ((i * 31 + j) % 9 != 0) {
                        continue;
                    }
                    BigInteger a = number(digits, i, 4, bits);
                    BigInteger b = number(digits, j, 3, bits);
                    Residueworks x = Check.with(a, b);
                    x.divides(3, 4, 1, 2);
                    BigInteger[] want = a.divideAndRemainder(b);
                    Check.same(a + " divides " + b, want[0], Check.get(x, 3));
                    Check.same(a + " leaves by " + b, want[1], Check.get(x, 4));
                }
            }
        }
    }

    private static BigInteger number(BigInteger[] digits, int which, int count, int bits) {
        BigInteger number = BigInteger.ZERO;
        int left = which;
        for (int i = 0; i < count; i++) {
            number = number.shiftLeft(bits).add(digits[left % digits.length]);
            left /= digits.length;
        }
        return number;
    }
}
