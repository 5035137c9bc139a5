import java.math.BigInteger;

/** Promises 16 to 25: type, erase, signAt, read, write, push, clearRow, fromRow, toRow, byteAt. */
public final class TextRowTest {
    private static final BigInteger[] NUMBERS = {BigInteger.ZERO, BigInteger.ONE, Check.big(-1), Check.big(35), Check.big(-36),
        Check.big(127), Check.big(128), Check.big(-128), Check.big(-129), Check.two(30), Check.two(60).negate(),
        Check.two(63), Check.two(63).negate(), Check.two(64), Check.some(100, 1), Check.some(335, 2).negate(),
        Check.some(599, 3), Check.some(600, 4).negate(), Check.two(599), Check.two(592), Check.two(599).negate(), Check.LONGEST,
        Check.LEAST};

    public static void main(String[] args) {
        promise16();
        promise17();
        promise18();
        promise19();
        promise19Limits();
        promise19NoNumbers();
        promise20();
        promise21();
        promise22();
        promise23();
        promise24();
        promise25();
        Check.finish();
    }

    /** An object with a full text, made by few calls: the longest number there is, and what lacks. */
    private static Residueworks full() {
        Residueworks x = Check.with(Check.LEAST);
        Check.same("write of the least", 602, x.write(1, 2));
        for (int i = 603; i <= 610; i++) {
            Check.same("type", i, x.type('z'));
        }
        return x;
    }

    private static void promise16() {
        Residueworks x = new Residueworks();
        for (int sign = 33; sign <= 126; sign++) {
            Check.same("type " + sign, sign - 32, x.type((char) sign));
            Check.same("the sign", sign, (int) x.signAt(sign - 33));
        }
        for (int sign : new int[] {0, 9, 10, 32, 127, 128, 33 + 128, 33 + 256, 65535}) {
            Check.fails("type " + sign, x, Check.ARGUMENT, () -> x.type((char) sign));
        }
        Residueworks full = full();
        Check.fails("a sign too many", full, Check.STATE, () -> full.type('!'));
        Check.fails("no sign, and a sign too many", full, Check.ARGUMENT, () -> full.type(' '));
        Check.same("erase of a full text", 610, full.erase());
        Check.same("type after it", 1, full.type('~'));
        Residueworks typed = new Residueworks();
        for (int i = 1; i <= 500; i++) {
            Check.same("type", i, typed.type('a'));
        }
    }

    private static void promise17() {
        Residueworks x = new Residueworks();
        Check.same("erase of nothing", 0, x.erase());
        Check.text(x, "abc");
        Check.same("erase", 3, x.erase());
        Check.same("erase again", 0, x.erase());
        Check.fails("signAt after it", x, Check.PLACE, () -> x.signAt(0));
        Check.same("type after it", 1, x.type('d'));
        Check.same("the text", "d", Check.text(x, 1));
    }

    private static void promise18() {
        Residueworks x = new Residueworks();
        Check.fails("signAt(0) of none", x, Check.PLACE, () -> x.signAt(0));
        Check.text(x, "~!x");
        Check.same("the text", "~!x", Check.text(x, 3));
        Check.fails("signAt(-1)", x, Check.PLACE, () -> x.signAt(-1));
        Check.fails("signAt(greatest int)", x, Check.PLACE, () -> x.signAt(Integer.MAX_VALUE));
        Residueworks full = full();
        Check.same("the last sign of all", 'z', full.signAt(609));
        Check.fails("signAt(610)", full, Check.PLACE, () -> full.signAt(610));
    }

    private static void reads(String text, int radix, BigInteger want) {
        Residueworks x = Check.with(Check.big(77), Check.big(78));
        Check.text(x, text);
        Check.wrote("read " + text + " by " + radix, x, 2, want, x.read(2, radix));
        Check.same("the text stays", text, Check.text(x, text.length()));
    }

    private static void promise19() {
        for (int radix = 2; radix <= 36; radix++) {
            for (BigInteger number : NUMBERS) {
                String text = number.toString(radix);
                int bits = 32 - Integer.numberOfLeadingZeros(radix - 1);
                if (text.length() < 200 && text.length() * bits <= 640) {
                    reads(text, radix, number);
                    reads(text.toUpperCase(), radix, number);
                }
            }
        }
        reads("+0", 2, BigInteger.ZERO);
        reads("-0", 10, BigInteger.ZERO);
        reads("-000", 10, BigInteger.ZERO);
        reads("+7", 8, Check.big(7));
        reads("-zZ", 36, Check.big(-35 * 37));
        reads("0000000000000000000000000000000000000000000012", 3, Check.big(5));
        reads("aF", 16, Check.big(175));
        for (BigInteger number : new BigInteger[] {Check.LEAST, Check.LONGEST, Check.some(600, 5)}) {
            Residueworks x = Check.with(number);
            x.write(1, 2);
            Check.wrote("read of 600 signs", x, 3, number, x.read(3, 2));
        }
    }

    private static void promise19Limits() {
        for (int radix = 2; radix <= 36; radix++) {
            int by = radix;
            int most = 640 / (32 - Integer.numberOfLeadingZeros(radix - 1));
            if (most > 400) {
                continue;
            }
            Residueworks x = new Residueworks();
            Check.text(x, "1".repeat(most));
            BigInteger number = new BigInteger("1".repeat(most), radix);
            if (number.bitLength() > 600) {
                Check.fails("too long by " + by, x, Check.STATE, () -> x.read(0, by));
            } else {
                Check.wrote("read most by " + by, x, 0, number, x.read(0, by));
            }
            x.type('1');
            Check.fails("too much text by " + by, x, Check.STATE, () -> x.read(0, by));
            x.type('!');
            Check.fails("too much text, no number, by " + by, x, Check.STATE, () -> x.read(0, by));
            Check.fails("too much text, no register", x, Check.PLACE, () -> x.read(8, by));
        }
        Residueworks binary = Check.with(Check.LEAST);
        binary.write(1, 2);
        binary.type('0');
        Check.fails("twice the least", binary, Check.STATE, () -> binary.read(2, 2));
        Residueworks x = full();
        Check.same("read of 610 signs, no number", -1, x.read(0, 2));
        Check.fails("read of 610 signs by 3", x, Check.STATE, () -> x.read(0, 3));
        Check.fails("read of 610 signs by 1", x, Check.ARGUMENT, () -> x.read(0, 1));
        Check.fails("read of 610 signs by 37", x, Check.ARGUMENT, () -> x.read(0, 37));
        Check.fails("read of 610 signs to -1 by 37", x, Check.PLACE, () -> x.read(-1, 37));
        Residueworks near = new Residueworks();
        Check.text(near, "f".repeat(150));
        Check.wrote("read of the longest", near, 0, Check.LONGEST, near.read(0, 16));
        near.erase();
        Check.text(near, "1" + "0".repeat(150));
        Check.fails("read of 601 bits", near, Check.STATE, () -> near.read(0, 16));
        Residueworks below = new Residueworks();
        Check.text(below, "-1" + "0".repeat(150));
        Check.wrote("read of the least", below, 0, Check.LEAST, below.read(0, 16));
    }

    private static void promise19NoNumbers() {
        String[] texts = {"", "+", "-", "+-1", "-+1", "--1", "1-", "1+", "2", "12", "1_0", "0x1", "1.", "-2", "!", "~", "/", ":"};
        for (String text : texts) {
            Residueworks x = Check.with(Check.big(77), Check.big(78));
            Check.text(x, text);
            Check.same("read " + text, -1, x.read(2, 2));
            Check.same("the register stays", Check.big(78), Check.get(x, 2));
        }
        for (int radix = 2; radix < 36; radix++) {
            Residueworks x = Check.with(Check.big(77));
            Check.text(x, "1" + Character.forDigit(radix, 36));
            Check.same("a digit too large", -1, x.read(1, radix));
            Check.text(x, "1" + Character.toUpperCase(Character.forDigit(radix, 36)));
            Check.same("a digit too large", -1, x.read(1, radix));
            Check.same("the register stays", Check.big(77), Check.get(x, 1));
        }
        for (char sign : "@[`{".toCharArray()) {
            Residueworks x = new Residueworks();
            x.type(sign);
            Check.same("read " + sign, -1, x.read(0, 36));
        }
    }

    private static void promise20() {
        for (int radix = 2; radix <= 36; radix++) {
            for (BigInteger number : NUMBERS) {
                Residueworks x = Check.with(number);
                x.type('9');
                String want = number.toString(radix);
                int count = x.write(1, radix);
                Check.same("write " + number + " by " + radix, want.length(), count);
                if (count < 400) {
                    Check.same("the text of " + number + " by " + radix, want, Check.text(x, count));
                } else {
                    Check.same("the first sign", want.charAt(0), x.signAt(0));
                    Check.same("the last sign", want.charAt(count - 1), x.signAt(count - 1));
                    Check.fails("one more", x, Check.PLACE, () -> x.signAt(count));
                }
            }
        }
        Residueworks x = Check.with(Check.big(9));
        Check.fails("write by 1", x, Check.ARGUMENT, () -> x.write(1, 1));
        Check.fails("write by 37", x, Check.ARGUMENT, () -> x.write(1, 37));
        Check.fails("write by 0", x, Check.ARGUMENT, () -> x.write(1, 0));
        Check.fails("write of 8 by 37", x, Check.PLACE, () -> x.write(8, 37));
        Check.fails("write of -1", x, Check.PLACE, () -> x.write(-1, 10));
    }

    private static void promise21() {
        Residueworks x = new Residueworks();
        for (int i = 1; i <= 80; i++) {
            int eight = i == 1 ? -128 : i == 2 ? 127 : i - 50;
            Check.same("push", i, x.push(eight));
            Check.same("the byte", eight, x.byteAt(i - 1));
        }
        Check.fails("a byte too many", x, Check.STATE, () -> x.push(0));
        Check.fails("no byte, and a byte too many", x, Check.ARGUMENT, () -> x.push(128));
        Check.same("clearRow", 80, x.clearRow());
        Check.fails("push -129", x, Check.ARGUMENT, () -> x.push(-129));
        Check.fails("push 128", x, Check.ARGUMENT, () -> x.push(128));
        Check.fails("push 255", x, Check.ARGUMENT, () -> x.push(255));
        Check.fails("push least int", x, Check.ARGUMENT, () -> x.push(Integer.MIN_VALUE));
    }

    private static void promise22() {
        Residueworks x = new Residueworks();
        Check.same("clearRow of none", 0, x.clearRow());
        x.push(1);
        x.push(2);
        Check.same("clearRow", 2, x.clearRow());
        Check.same("clearRow again", 0, x.clearRow());
        Check.fails("byteAt after it", x, Check.PLACE, () -> x.byteAt(0));
        Check.same("push after it", 1, x.push(3));
        Check.same("the byte", 3, x.byteAt(0));
    }

    private static Residueworks row(byte[] bytes) {
        Residueworks x = new Residueworks();
        x.put(5, 77);
        for (byte eight : bytes) {
            x.push(eight);
        }
        return x;
    }

    private static void fromRow(byte[] bytes) {
        Residueworks x = row(bytes);
        BigInteger want = new BigInteger(bytes);
        if (want.bitLength() > 600) {
            Check.fails("fromRow of " + want, x, Check.STATE, () -> x.fromRow(5));
        } else {
            Check.wrote("fromRow of " + want, x, 5, want, x.fromRow(5));
            Check.same("the row stays", bytes.length, x.clearRow());
        }
    }

    private static void promise23() {
        Residueworks none = new Residueworks();
        none.put(5, 77);
        Check.same("fromRow of none", -1, none.fromRow(5));
        Check.same("the register stays", Check.big(77), Check.get(none, 5));
        Check.fails("fromRow of none to 8", none, Check.PLACE, () -> none.fromRow(8));
        Check.fails("fromRow of none to -1", none, Check.PLACE, () -> none.fromRow(-1));
        for (BigInteger number : NUMBERS) {
            fromRow(number.toByteArray());
        }
        for (int first : new int[] {0, 1, 127, -128, -1}) {
            for (int count = 1; count <= 80; count++) {
                byte[] bytes = new byte[count];
                bytes[0] = (byte) first;
                fromRow(bytes);
                java.util.Arrays.fill(bytes, 1, count, (byte) -1);
                fromRow(bytes);
            }
        }
        byte[] padded = new byte[80];
        java.util.Arrays.fill(padded, (byte) -1);
        fromRow(padded);
        padded[5] = 0;
        fromRow(padded);
        Residueworks x = row(new byte[] {127});
        Check.fails("fromRow to 8", x, Check.PLACE, () -> x.fromRow(8));
    }

    private static void promise24() {
        for (int bits = 0; bits <= 600; bits += bits > 40 && bits < 580 ? 9 : 1) {
            for (BigInteger number : new BigInteger[] {Check.two(bits).subtract(BigInteger.ONE), Check.two(bits).negate(),
                Check.two(bits).negate().subtract(BigInteger.ONE), bits == 0 ? BigInteger.ZERO : Check.some(bits, bits)}) {
                if (number.bitLength() > 600) {
                    continue;
                }
                Residueworks x = Check.with(number);
                x.push(5);
                byte[] want = number.toByteArray();
                Check.same("toRow of " + number, want.length, x.toRow(1));
                for (int i = 0; i < want.length; i++) {
                    Check.same("byte " + i + " of " + number, (int) want[i], x.byteAt(i));
                }
                Check.fails("one more", x, Check.PLACE, () -> x.byteAt(want.length));
            }
        }
        Residueworks x = Check.with(Check.LEAST);
        Check.same("toRow of the least", 76, x.toRow(1));
        Check.fails("toRow of 8", x, Check.PLACE, () -> x.toRow(8));
        Check.fails("toRow of -1", x, Check.PLACE, () -> x.toRow(-1));
    }

    private static void promise25() {
        Residueworks x = new Residueworks();
        Check.fails("byteAt(0) of none", x, Check.PLACE, () -> x.byteAt(0));
        x.push(-128);
        x.push(127);
        Check.same("byteAt 0", -128, x.byteAt(0));
        Check.same("byteAt 1", 127, x.byteAt(1));
        Check.fails("byteAt(2)", x, Check.PLACE, () -> x.byteAt(2));
        Check.fails("byteAt(-1)", x, Check.PLACE, () -> x.byteAt(-1));
        Residueworks full = row(new byte[80]);
        Check.same("byteAt(79)", 0, full.byteAt(79));
        Check.fails("byteAt(80)", full, Check.PLACE, () -> full.byteAt(80));
    }
}
