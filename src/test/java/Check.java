import java.math.BigInteger;

/** What the tests share: answers and exceptions held against those that are due, and registers of any length. */
final class Check {
    static final BigInteger LONGEST = BigInteger.TWO.pow(600).subtract(BigInteger.ONE);
    static final BigInteger LEAST = BigInteger.TWO.pow(600).negate();
    static final Class<?> PLACE = IndexOutOfBoundsException.class;
    static final Class<?> ARGUMENT = IllegalArgumentException.class;
    static final Class<?> NUMBER = ArithmeticException.class;
    static final Class<?> STATE = IllegalStateException.class;
    static final Class<?> NONE = java.util.NoSuchElementException.class;

    private static int right;
    private static int wrong;

    interface Call {
        Object answer();
    }

    private Check() {
    }

    static BigInteger big(String number) {
        return new BigInteger(number);
    }

    static BigInteger big(long number) {
        return BigInteger.valueOf(number);
    }

    static BigInteger two(int exponent) {
        return BigInteger.TWO.pow(exponent);
    }

    /** A number of just so many bits, the same each time. */
    static BigInteger some(int bits, int which) {
        BigInteger number = BigInteger.ONE;
        long word = which;
        while (number.bitLength() < bits) {
            word = word * 6364136223846793005L + 1442695040888963407L;
            number = number.shiftLeft(32).or(big(word >>> 32));
        }
        return number.shiftRight(number.bitLength() - bits);
    }

    static void set(Residueworks x, int register, BigInteger number) {
        int words = number.bitLength() / 64;
        x.put(register, number.shiftRight(64 * words).longValue());
        for (int i = words - 1; i >= 0; i--) {
            x.longer(register, number.shiftRight(64 * i).longValue());
        }
    }

    /** A new object, which has the numbers in its registers from 1 on; none is used for more than 512 calls. */
    static Residueworks with(BigInteger... numbers) {
        Residueworks x = new Residueworks();
        for (int i = 0; i < numbers.length; i++) {
            set(x, i + 1, numbers[i]);
        }
        return x;
    }

    static BigInteger get(Residueworks x, int register) {
        BigInteger number = x.bit(register, 700) ? BigInteger.ONE.negate() : BigInteger.ZERO;
        for (int at = 640; at >= 0; at -= 64) {
            BigInteger word = new BigInteger(Long.toUnsignedString(x.part(register, at)));
            number = number.shiftLeft(64).or(word);
        }
        return number;
    }

    static void same(String what, Object want, Object got) {
        if (want instanceof Character) {
            want = (int) (Character) want;
        }
        if (got instanceof Character) {
            got = (int) (Character) got;
        }
        if (want.equals(got)) {
            right++;
        } else {
            wrong++;
            System.out.println(what + " answered " + got + ", due is " + want);
        }
    }

    /** A register that a call wrote, and the length that it answered. */
    static void wrote(String what, Residueworks x, int register, BigInteger want, int length) {
        same(what + " wrote", want, get(x, register));
        same(what, want.bitLength(), length);
    }

    /** The exception that is due, and that nothing has changed; without one, that the answer is false. */
    static void fails(String what, Residueworks x, Class<?> due, Call call) {
        long before = x.checksum();
        try {
            Object answer = call.answer();
            same(what, due == null ? false : due, answer);
        } catch (RuntimeException e) {
            same(what, due == null ? "false" : due, e.getClass());
        }
        same(what + " changed", before, x.checksum());
    }

    static void text(Residueworks x, String text) {
        x.erase();
        for (int i = 0; i < text.length(); i++) {
            same("type", i + 1, x.type(text.charAt(i)));
        }
    }

    static String text(Residueworks x, int count) {
        StringBuilder text = new StringBuilder();
        for (int i = 0; i < count; i++) {
            text.append(x.signAt(i));
        }
        fails("signAt(" + count + ")", x, PLACE, () -> x.signAt(count));
        return text.toString();
    }

    static void finish() {
        System.out.println(right + " answers as due, " + wrong + " not");
        if (wrong > 0 || right == 0) {
            System.exit(1);
        }
    }
}
