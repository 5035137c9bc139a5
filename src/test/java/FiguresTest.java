import java.math.BigInteger;

/** Promises 39 to 42: share, meanLength, checksum, isTrue. */
public final class FiguresTest {
    public static void main(String[] args) {
        promise39();
        promise40();
        promise41();
        promise42();
        promise42Small();
        promise42Wrong();
        Check.finish();
    }

    private static void promise39() {
        BigInteger[] numbers = {BigInteger.ONE, Check.big(2), Check.big(3), Check.big(-2), Check.big(-3), Check.big(10),
            Check.two(30), Check.two(599), Check.some(600, 1), Check.some(599, 2).negate(), Check.LONGEST, Check.LEAST,
            Check.LEAST.add(BigInteger.ONE), Check.some(333, 4)};
        for (BigInteger number : numbers) {
            Check.same("share of " + number, (float) number.bitCount() / (float) number.bitLength(), Check.with(number).share(1));
        }
        Residueworks x = Check.with(Check.big(-1), BigInteger.ZERO);
        Check.fails("share of -1", x, Check.NUMBER, () -> x.share(1));
        Check.fails("share of 0", x, Check.NUMBER, () -> x.share(2));
        Check.fails("share of register 8", x, Check.PLACE, () -> x.share(8));
        Check.fails("share of register -1", x, Check.PLACE, () -> x.share(-1));
    }

    private static void promise40() {
        Residueworks x = new Residueworks();
        Check.same("mean length of all 0", 0.0, x.meanLength());
        x.put(7, -1);
        Check.same("mean length with -1", 0.0, x.meanLength());
        x.put(0, 1);
        Check.same("mean length with 1", 0.125, x.meanLength());
        Check.set(x, 3, Check.LEAST);
        Check.same("mean length with the least", 601 / 8.0, x.meanLength());
        for (int i = 0; i < 8; i++) {
            Check.set(x, i, Check.LONGEST);
        }
        Check.same("mean length of the longest", 600.0, x.meanLength());
    }

    private static void promise41() {
        Reference reference = new Reference();
        Residueworks x = new Residueworks();
        Check.same("a new checksum", reference.checksum(), x.checksum());
        BigInteger[] numbers = {Check.LEAST, Check.LONGEST, Check.some(600, 3).negate(), Check.big(-1), Check.two(576),
            Check.some(577, 5), Check.two(64).negate(), Check.big(5)};
        long sum = 7;
        for (int i = 0; i < 8; i++) {
            Check.set(x, i, numbers[i]);
            sum = 31 * sum + numbers[i].signum();
            sum = 31 * sum + numbers[i].bitLength();
            for (int at = 0; at <= 576; at += 64) {
                sum = 31 * sum + numbers[i].shiftRight(at).longValue();
            }
        }
        Check.same("checksum of the registers", sum * 31 * 31 * 31, x.checksum());
        Check.text(x, "a~!");
        sum = 31 * (31 * (31 * (31 * sum + 3) + 'a') + '~') + '!';
        Check.same("checksum with text", sum * 31 * 31, x.checksum());
        x.push(-128);
        x.push(127);
        x.push(-1);
        sum = 31 * (31 * (31 * (31 * sum + 3) - 128) + 127) - 1;
        Check.same("checksum with a row", sum * 31, x.checksum());
        x.condition(0, 1);
        x.condition(0, 5);
        Check.same("checksum with conditions", 31 * sum + 2, x.checksum());
        Check.same("checksum again", 31 * sum + 2, x.checksum());
    }

    private static void isTrue(Residueworks x, int one, int other, int modulus) {
        long before = x.checksum();
        boolean all = x.isTrue(one, other, modulus);
        Check.same("isTrue of " + Check.get(x, one) + ", " + Check.get(x, other) + ", " + Check.get(x, modulus), true, all);
        Check.same("isTrue changed", before, x.checksum());
    }

    private static void promise42() {
        BigInteger[] numbers = {BigInteger.ZERO, BigInteger.ONE, Check.big(-1), Check.big(12), Check.two(300), Check.some(301, 4).negate(),
            Check.some(600, 5), Check.LONGEST, Check.LEAST};
        BigInteger[] moduli = {BigInteger.ZERO, Check.big(-6), BigInteger.ONE, Check.big(2), Check.big(12), Check.big(4096),
            Check.big(4097), Check.two(521).subtract(BigInteger.ONE), Check.some(600, 7), Check.LONGEST, Check.LEAST};
        for (BigInteger one : numbers) {
            for (BigInteger other : numbers) {
                for (BigInteger modulus : moduli) {
                    isTrue(Check.with(one, other, modulus), 1, 2, 3);
                }
            }
        }
        Residueworks x = Check.with(Check.LONGEST);
        isTrue(x, 1, 1, 1);
        Check.text(x, "abc");
        x.push(7);
        x.condition(1, 1);
        isTrue(x, 1, 0, 1);
        isTrue(x, 0, 1, 0);
        Check.same("the text stays", "abc", Check.text(x, 3));
        Check.same("the row stays", 7, x.byteAt(0));
        Check.same("the condition stays", true, x.solve(5, 6));
        Check.same("its modulus", Check.LONGEST, Check.get(x, 6));
    }

    private static void promise42Small() {
        for (int one = -9; one < 30; one++) {
            for (int other = -9; other < 30; other++) {
                isTrue(Check.with(Check.big(one), Check.big(other), Check.big((one * 31 + other * 7) & 127)), 1, 2, 3);
            }
        }
        for (int i = 0; i < 300; i++) {
            isTrue(Check.with(Check.some(1 + i * 2, i), Check.some(600 - i, i + 1).negate(), Check.some(2 + i * 7 % 599, i + 2)), 1, 2, 3);
        }
    }

    private static void promise42Wrong() {
        Residueworks x = new Residueworks();
        Check.fails("isTrue(8, 0, 0)", x, Check.PLACE, () -> x.isTrue(8, 0, 0));
        Check.fails("isTrue(0, 8, 0)", x, Check.PLACE, () -> x.isTrue(0, 8, 0));
        Check.fails("isTrue(0, 0, 8)", x, Check.PLACE, () -> x.isTrue(0, 0, 8));
        Check.fails("isTrue(-1, 0, 0)", x, Check.PLACE, () -> x.isTrue(-1, 0, 0));
        Check.fails("isTrue(0, -1, 0)", x, Check.PLACE, () -> x.isTrue(0, -1, 0));
        Check.fails("isTrue(0, 0, -1)", x, Check.PLACE, () -> x.isTrue(0, 0, -1));
    }
}
