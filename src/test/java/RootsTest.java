import java.math.BigInteger;

/** Promises 37 and 38: root, perfect. */
public final class RootsTest {
    public static void main(String[] args) {
        promise37();
        promise37Wrong();
        promise38();
        promise38Wrong();
        Check.finish();
    }

    private static void promise37() {
        BigInteger[] numbers = {BigInteger.ZERO, BigInteger.ONE, Check.big(2), Check.big(3), Check.big(4), Check.big(8),
            Check.two(30), Check.two(60).subtract(BigInteger.ONE), Check.some(301, 1), Check.some(599, 2), Check.some(600, 3),
            Check.two(599), Check.LONGEST, Check.two(576), Check.two(576).subtract(BigInteger.ONE)};
        for (int by = 1; by <= 64; by++) {
            for (BigInteger number : numbers) {
                Residueworks x = Check.with(number);
                Check.wrote("root of " + number + " by " + by, x, 0, Reference.rootOf(number, by), x.root(0, 1, by));
            }
            for (int bits = 1; bits * by <= 600; bits += bits < 8 ? 1 : 37) {
                BigInteger root = Check.some(bits, by);
                BigInteger power = root.pow(by);
                Residueworks x = Check.with(power, power.subtract(BigInteger.ONE), power.add(BigInteger.ONE));
                Check.wrote("root of " + power + " by " + by, x, 1, root, x.root(1, 1, by));
                Check.wrote("root of less", x, 2, Reference.rootOf(power.subtract(BigInteger.ONE), by), x.root(2, 2, by));
                Check.wrote("root of more", x, 3, Reference.rootOf(power.add(BigInteger.ONE), by), x.root(3, 3, by));
            }
        }
    }

    private static void promise37Wrong() {
        Residueworks x = Check.with(Check.big(-1), Check.LEAST, Check.big(64));
        Check.fails("root of -1", x, Check.NUMBER, () -> x.root(0, 1, 3));
        Check.fails("root of -1 by 1", x, Check.NUMBER, () -> x.root(0, 1, 1));
        Check.fails("root of the least", x, Check.NUMBER, () -> x.root(0, 2, 64));
        Check.fails("root by 0", x, Check.ARGUMENT, () -> x.root(0, 3, 0));
        Check.fails("root by 65", x, Check.ARGUMENT, () -> x.root(0, 3, 65));
        Check.fails("root by -1 of -1", x, Check.ARGUMENT, () -> x.root(0, 1, -1));
        Check.fails("root by the least int", x, Check.ARGUMENT, () -> x.root(0, 3, Integer.MIN_VALUE));
        Check.fails("root to 8 by 0 of -1", x, Check.PLACE, () -> x.root(8, 1, 0));
        Check.fails("root of register -1", x, Check.PLACE, () -> x.root(0, -1, 2));
    }

    private static int greatestExponent(BigInteger number) {
        for (int by = number.bitLength(); by > 1; by--) {
            if (Reference.rootOf(number, by).pow(by).equals(number)) {
                return by;
            }
        }
        return 1;
    }

    private static void perfect(BigInteger number, int want) {
        Check.same("perfect of " + number, want, Check.with(number).perfect(1));
    }

    private static void promise38() {
        for (int i = 2; i < 3000; i++) {
            perfect(Check.big(i), greatestExponent(Check.big(i)));
        }
        for (int base : new int[] {2, 3, 5, 6, 7, 10, 12, 15, 26, 1001, 65535}) {
            for (int exponent = 1; Check.big(base).pow(exponent).bitLength() <= 600; exponent++) {
                perfect(Check.big(base).pow(exponent), exponent);
            }
        }
        perfect(Check.two(599), 599);
        perfect(Check.two(599).add(BigInteger.ONE), greatestExponent(Check.two(599).add(BigInteger.ONE)));
        perfect(Check.LONGEST, 1);
        perfect(Check.some(300, 1).setBit(0).clearBit(1).pow(2), greatestExponent(Check.some(300, 1).setBit(0).clearBit(1).pow(2)));
        for (int i = 0; i < 20; i++) {
            BigInteger number = Check.some(20 + i, i).pow(2 + i % 14);
            perfect(number, greatestExponent(number));
            perfect(number.add(BigInteger.ONE), greatestExponent(number.add(BigInteger.ONE)));
            perfect(number.subtract(BigInteger.ONE), greatestExponent(number.subtract(BigInteger.ONE)));
        }
    }

    private static void promise38Wrong() {
        for (BigInteger number : new BigInteger[] {BigInteger.ZERO, BigInteger.ONE, Check.big(-1), Check.big(-4), Check.big(-8),
            Check.LEAST}) {
            Residueworks x = Check.with(number);
            Check.fails("perfect of " + number, x, Check.NUMBER, () -> x.perfect(1));
        }
        Residueworks x = new Residueworks();
        Check.fails("perfect of register 8", x, Check.PLACE, () -> x.perfect(8));
        Check.fails("perfect of register -1", x, Check.PLACE, () -> x.perfect(-1));
    }
}
