import java.math.BigInteger;

/** Promises 1 to 8: a new object, put, longer, copy, part, tells, exact, compare. */
public final class RegistersTest {
    public static void main(String[] args) {
        promise1();
        promise2();
        promise3();
        promise4();
        promise5();
        promise6();
        promise7();
        promise8();
        Check.finish();
    }

    private static void promise1() {
        Residueworks x = new Residueworks();
        for (int i = 0; i < 8; i++) {
            Check.same("a new register", BigInteger.ZERO, Check.get(x, i));
            Check.same("its length", 0, x.tells(i, 'l'));
        }
        Check.same("erase of a new text", 0, x.erase());
        Check.same("clearRow of a new row", 0, x.clearRow());
        Check.same("forget of a new object", 0, x.forget());
        Check.same("a new mean length", 0.0, x.meanLength());
        long sum = 7;
        for (int i = 0; i < 8 * 12 + 3; i++) {
            sum *= 31;
        }
        Check.same("a new checksum", sum, x.checksum());
    }

    private static void promise2() {
        Residueworks x = new Residueworks();
        long[] numbers = {0, 1, -1, 2, -2, 3, (1L << 30) - 1, 1L << 30, -(1L << 30), (1L << 60) - 1, 1L << 60,
            -(1L << 60) - 1, Long.MAX_VALUE, Long.MIN_VALUE, Long.MIN_VALUE + 1, 1234567890123456789L};
        for (long number : numbers) {
            for (int register = 0; register <= 7; register += 7) {
                Check.wrote("put " + number, x, register, Check.big(number), x.put(register, number));
            }
        }
        Check.fails("put(8)", x, Check.PLACE, () -> x.put(8, 1));
        Check.fails("put(-1)", x, Check.PLACE, () -> x.put(-1, 1));
        Check.fails("put(least int)", x, Check.PLACE, () -> x.put(Integer.MIN_VALUE, 1));
        Check.fails("put(greatest int)", x, Check.PLACE, () -> x.put(Integer.MAX_VALUE, 1));
    }

    private static void promise3() {
        Residueworks x = new Residueworks();
        x.put(1, -1);
        Check.wrote("longer(-1, -1)", x, 1, Check.big(-1), x.longer(1, -1));
        Check.wrote("longer(-1, 0)", x, 1, Check.two(64).negate(), x.longer(1, 0));
        x.put(1, 0);
        Check.wrote("longer(0, least)", x, 1, Check.two(63), x.longer(1, Long.MIN_VALUE));
        Check.wrote("longer again", x, 1, Check.two(127).add(Check.big(5)), x.longer(1, 5));
        BigInteger most = Check.two(536).subtract(BigInteger.ONE);
        Check.set(x, 7, most);
        Check.wrote("longer to 600 bits", x, 7, Check.LONGEST, x.longer(7, -1));
        Check.fails("longer of 600 bits", x, Check.STATE, () -> x.longer(7, 0));
        Check.set(x, 7, Check.two(536).negate());
        Check.wrote("longer to the least", x, 7, Check.LEAST, x.longer(7, 0));
        Check.set(x, 7, Check.two(536).negate());
        Check.wrote("longer to the least and 1", x, 7, Check.LEAST.add(BigInteger.ONE), x.longer(7, 1));
        Check.set(x, 7, Check.two(536));
        Check.fails("longer to 601 bits", x, Check.STATE, () -> x.longer(7, 0));
        Check.set(x, 7, Check.two(536).negate().subtract(BigInteger.ONE));
        Check.fails("longer below the least", x, Check.STATE, () -> x.longer(7, -1));
        Check.fails("longer(8)", x, Check.PLACE, () -> x.longer(8, 1));
        Check.fails("longer(-1)", x, Check.PLACE, () -> x.longer(-1, 1));
    }

    private static void promise4() {
        Residueworks x = new Residueworks();
        Check.set(x, 0, Check.LEAST);
        Check.wrote("copy", x, 7, Check.LEAST, x.copy(7, 0));
        Check.wrote("copy to itself", x, 7, Check.LEAST, x.copy(7, 7));
        Check.wrote("copy of 0", x, 7, BigInteger.ZERO, x.copy(7, 1));
        Check.same("the copied one stays", Check.LEAST, Check.get(x, 0));
        x.copy(2, 0);
        x.put(0, 3);
        Check.same("the copy stays", Check.LEAST, Check.get(x, 2));
        Check.fails("copy(8, 0)", x, Check.PLACE, () -> x.copy(8, 0));
        Check.fails("copy(0, 8)", x, Check.PLACE, () -> x.copy(0, 8));
        Check.fails("copy(0, -1)", x, Check.PLACE, () -> x.copy(0, -1));
        Check.fails("copy(-1, 0)", x, Check.PLACE, () -> x.copy(-1, 0));
    }

    private static void promise5() {
        BigInteger[] numbers = {BigInteger.ZERO, Check.big(-1), Check.LONGEST, Check.LEAST, Check.some(599, 1),
            Check.some(600, 2).negate(), Check.two(90).negate(), Check.two(599)};
        for (BigInteger number : numbers) {
            Residueworks x = Check.with(number);
            for (int at = 0; at <= 700; at++) {
                x = at % 400 == 0 ? Check.with(number) : x;
                Check.same("part of " + number + " at " + at, number.shiftRight(at).longValue(), x.part(1, at));
            }
        }
        Residueworks x = Check.with(Check.some(77, 1));
        Check.fails("part at -1", x, Check.ARGUMENT, () -> x.part(0, -1));
        Check.fails("part at 701", x, Check.ARGUMENT, () -> x.part(0, 701));
        Check.fails("part at the greatest int", x, Check.ARGUMENT, () -> x.part(0, Integer.MAX_VALUE));
        Check.fails("part(8, 0)", x, Check.PLACE, () -> x.part(8, 0));
        Check.fails("part(8, 701): the first exception", x, Check.PLACE, () -> x.part(8, 701));
        Check.fails("part(-1, -1): the first exception", x, Check.PLACE, () -> x.part(-1, -1));
    }

    private static void promise6() {
        BigInteger[] numbers = {BigInteger.ZERO, BigInteger.ONE, Check.big(-1), Check.big(-2), Check.LONGEST, Check.LEAST,
            Check.some(500, 3), Check.some(600, 4).negate(), Check.two(300).negate(), Check.two(60), Check.two(599),
            Check.LEAST.add(BigInteger.ONE), Check.two(60).negate(), Check.big(12)};
        for (BigInteger number : numbers) {
            Residueworks x = new Residueworks();
            Check.set(x, 5, number);
            Check.same("s of " + number, number.signum(), x.tells(5, 's'));
            Check.same("l of " + number, number.bitLength(), x.tells(5, 'l'));
            Check.same("c of " + number, number.bitCount(), x.tells(5, 'c'));
            Check.same("t of " + number, number.getLowestSetBit(), x.tells(5, 't'));
        }
        Residueworks x = new Residueworks();
        Check.fails("tells x", x, Check.ARGUMENT, () -> x.tells(0, 'x'));
        Check.fails("tells S", x, Check.ARGUMENT, () -> x.tells(0, 'S'));
        Check.fails("tells of a far sign", x, Check.ARGUMENT, () -> x.tells(0, (char) ('s' + 256)));
        Check.fails("tells(8)", x, Check.PLACE, () -> x.tells(8, 's'));
        Check.fails("tells(-1, x): the first exception", x, Check.PLACE, () -> x.tells(-1, 'x'));
    }

    private static void promise7() {
        Residueworks x = new Residueworks();
        long[] numbers = {0, 1, -1, Integer.MAX_VALUE, Integer.MIN_VALUE, 1 << 30, -(1 << 30), 987654321};
        for (long number : numbers) {
            x.put(2, number);
            Check.same("exact " + number, (int) number, x.exact(2));
        }
        long[] others = {Integer.MAX_VALUE + 1L, Integer.MIN_VALUE - 1L, Long.MAX_VALUE, Long.MIN_VALUE, 1L << 32};
        for (long number : others) {
            x.put(2, number);
            Check.fails("exact " + number, x, Check.NUMBER, () -> x.exact(2));
        }
        Check.set(x, 2, Check.LONGEST);
        Check.fails("exact of 600 bits", x, Check.NUMBER, () -> x.exact(2));
        Check.set(x, 2, Check.LEAST);
        Check.fails("exact of the least", x, Check.NUMBER, () -> x.exact(2));
        Check.fails("exact(8)", x, Check.PLACE, () -> x.exact(8));
        Check.fails("exact(-1)", x, Check.PLACE, () -> x.exact(-1));
    }

    private static void promise8() {
        BigInteger[] rising = {Check.LEAST, Check.LEAST.add(BigInteger.ONE), Check.two(90).negate(), Check.big(-2),
            Check.big(-1), BigInteger.ZERO, BigInteger.ONE, Check.two(30), Check.two(60), Check.two(60).add(BigInteger.ONE),
            Check.two(599), Check.LONGEST};
        for (int i = 0; i < rising.length; i++) {
            for (int j = 0; j < rising.length; j++) {
                Residueworks x = Check.with(rising[i]);
                Check.set(x, 7, rising[j]);
                Check.same("compare " + rising[i] + " " + rising[j], Integer.compare(i, j), x.compare(1, 7));
            }
        }
        Residueworks x = Check.with(Check.LEAST);
        Check.same("compare with itself", 0, x.compare(1, 1));
        Check.fails("compare(8, 0)", x, Check.PLACE, () -> x.compare(8, 0));
        Check.fails("compare(0, 8)", x, Check.PLACE, () -> x.compare(0, 8));
        Check.fails("compare(0, -1)", x, Check.PLACE, () -> x.compare(0, -1));
    }
}
