import java.math.BigInteger;
import java.util.ArrayList;
import java.util.List;
import java.util.NoSuchElementException;

/** What the document says, in its plainest form and with java.math.BigInteger, to hold the program against. */
public final class Reference {
    private static final int BITS = 600;

    private final BigInteger[] registers = new BigInteger[8];
    private final StringBuilder text = new StringBuilder();
    private final List<Byte> row = new ArrayList<>();
    private final List<BigInteger> rests = new ArrayList<>();
    private final List<BigInteger> moduli = new ArrayList<>();

    public Reference() {
        java.util.Arrays.fill(registers, BigInteger.ZERO);
    }

    private static void need(boolean fits, RuntimeException otherwise) {
        if (!fits) {
            throw otherwise;
        }
    }

    private void registers(int... numbers) {
        for (int number : numbers) {
            need(number >= 0 && number <= 7, new IndexOutOfBoundsException());
        }
    }

    private static void range(long number, long least, long greatest) {
        need(number >= least && number <= greatest, new IllegalArgumentException());
    }

    private int keep(int to, BigInteger number) {
        need(number.bitLength() <= BITS, new IllegalStateException());
        registers[to] = number;
        return number.bitLength();
    }

    private static BigInteger big(long number) {
        return BigInteger.valueOf(number);
    }

    private static BigInteger unsigned(long number) {
        return new BigInteger(Long.toUnsignedString(number));
    }

    BigInteger held(int register) {
        return registers[register];
    }

    public int put(int register, long number) {
        registers(register);
        return keep(register, big(number));
    }

    public int longer(int register, long low) {
        registers(register);
        return keep(register, registers[register].multiply(BigInteger.TWO.pow(64)).add(unsigned(low)));
    }

    public int copy(int to, int from) {
        registers(to, from);
        return keep(to, registers[from]);
    }

    public long part(int register, int at) {
        registers(register);
        range(at, 0, 700);
        return registers[register].shiftRight(at).longValue();
    }

    public int tells(int register, char what) {
        registers(register);
        BigInteger number = registers[register];
        switch (what) {
            case 's': return number.signum();
            case 'l': return number.bitLength();
            case 'c': return number.bitCount();
            case 't': return number.getLowestSetBit();
            default: throw new IllegalArgumentException();
        }
    }

    public int exact(int register) {
        registers(register);
        return registers[register].intValueExact();
    }

    public int compare(int one, int other) {
        registers(one, other);
        return registers[one].compareTo(registers[other]);
    }

    public int does(char sign, int to, int one, int other) {
        registers(to, one, other);
        BigInteger a = registers[one];
        BigInteger b = registers[other];
        need("+-*/%mgc&|^n<>".indexOf(sign) >= 0, new IllegalArgumentException());
        need(!("/%".indexOf(sign) >= 0 && b.signum() == 0), new ArithmeticException());
        need(!(sign == 'm' && b.signum() <= 0), new ArithmeticException());
        switch (sign) {
            case '+': return keep(to, a.add(b));
            case '-': return keep(to, a.subtract(b));
            case '*': return keep(to, a.multiply(b));
            case '/': return keep(to, a.divide(b));
            case '%': return keep(to, a.remainder(b));
            case 'm': return keep(to, a.mod(b));
            case 'g': return keep(to, a.gcd(b));
            case 'c': return keep(to, a.signum() == 0 || b.signum() == 0 ? BigInteger.ZERO
                    : a.multiply(b).abs().divide(a.gcd(b)));
            case '&': return keep(to, a.and(b));
            case '|': return keep(to, a.or(b));
            case '^': return keep(to, a.xor(b));
            case 'n': return keep(to, a.andNot(b));
            case '<': return keep(to, a.min(b));
            default: return keep(to, a.max(b));
        }
    }

    public int alone(char sign, int to, int from) {
        registers(to, from);
        BigInteger a = registers[from];
        need("-a~q".indexOf(sign) >= 0, new IllegalArgumentException());
        switch (sign) {
            case '-': return keep(to, a.negate());
            case 'a': return keep(to, a.abs());
            case '~': return keep(to, a.not());
            default:
                need(a.signum() >= 0, new ArithmeticException());
                return keep(to, a.sqrt());
        }
    }

    public int shifts(int to, int from, int by) {
        registers(to, from);
        range(by, -700, 700);
        return keep(to, registers[from].shiftLeft(by));
    }

    public boolean bit(int register, int at) {
        registers(register);
        range(at, 0, 700);
        return registers[register].testBit(at);
    }

    public int setBit(int register, int at, char how) {
        registers(register);
        range(at, 0, 599);
        switch (how) {
            case '1': return keep(register, registers[register].setBit(at));
            case '0': return keep(register, registers[register].clearBit(at));
            case 'f': return keep(register, registers[register].flipBit(at));
            default: throw new IllegalArgumentException();
        }
    }

    public int power(int to, int from, int exponent) {
        registers(to, from);
        range(exponent, 0, 64);
        return keep(to, registers[from].pow(exponent));
    }

    public int divides(int quotient, int rest, int one, int other) {
        registers(quotient, rest, one, other);
        need(quotient != rest, new IllegalArgumentException());
        need(registers[other].signum() != 0, new ArithmeticException());
        BigInteger[] both = registers[one].divideAndRemainder(registers[other]);
        int length = keep(quotient, both[0]);
        keep(rest, both[1]);
        return length;
    }

    public int type(char sign) {
        range(sign, 33, 126);
        need(text.length() < 610, new IllegalStateException());
        return text.append(sign).length();
    }

    public int erase() {
        int had = text.length();
        text.setLength(0);
        return had;
    }

    public char signAt(int place) {
        need(place >= 0 && place < text.length(), new IndexOutOfBoundsException());
        return text.charAt(place);
    }

    public int read(int to, int radix) {
        registers(to);
        range(radix, 2, 36);
        need(text.length() * big(radix - 1).bitLength() <= 640, new IllegalStateException());
        BigInteger number;
        try {
            number = new BigInteger(text.toString(), radix);
        } catch (NumberFormatException e) {
            return -1;
        }
        return keep(to, number);
    }

    public int write(int from, int radix) {
        registers(from);
        range(radix, 2, 36);
        text.setLength(0);
        return text.append(registers[from].toString(radix)).length();
    }

    public int push(int eight) {
        range(eight, -128, 127);
        need(row.size() < 80, new IllegalStateException());
        row.add((byte) eight);
        return row.size();
    }

    public int clearRow() {
        int had = row.size();
        row.clear();
        return had;
    }

    public int fromRow(int to) {
        registers(to);
        if (row.isEmpty()) {
            return -1;
        }
        byte[] bytes = new byte[row.size()];
        for (int i = 0; i < bytes.length; i++) {
            bytes[i] = row.get(i);
        }
        return keep(to, new BigInteger(bytes));
    }

    public int toRow(int from) {
        registers(from);
        row.clear();
        for (byte eight : registers[from].toByteArray()) {
            row.add(eight);
        }
        return row.size();
    }

    public int byteAt(int place) {
        need(place >= 0 && place < row.size(), new IndexOutOfBoundsException());
        return row.get(place);
    }

    public int modPower(int to, int from, int exponent, int modulus) {
        registers(to, from, exponent, modulus);
        return keep(to, registers[from].modPow(registers[exponent], registers[modulus]));
    }

    public int inverse(int to, int from, int modulus) {
        registers(to, from, modulus);
        return keep(to, registers[from].modInverse(registers[modulus]));
    }

    public int symbol(int one, int other) {
        registers(one, other);
        BigInteger n = registers[other];
        need(n.signum() > 0 && n.testBit(0), new ArithmeticException());
        BigInteger a = registers[one].mod(n);
        int symbol = 1;
        while (a.signum() != 0) {
            while (!a.testBit(0)) {
                a = a.shiftRight(1);
                int eight = n.intValue() & 7;
                symbol = eight == 3 || eight == 5 ? -symbol : symbol;
            }
            symbol = (a.intValue() & 3) == 3 && (n.intValue() & 3) == 3 ? -symbol : symbol;
            BigInteger swapped = n.mod(a);
            n = a;
            a = swapped;
        }
        return n.equals(BigInteger.ONE) ? symbol : 0;
    }

    private int small(int register, int least, int greatest) {
        BigInteger number = registers[register];
        need(number.compareTo(big(least)) >= 0 && number.compareTo(big(greatest)) <= 0, new ArithmeticException());
        return number.intValue();
    }

    private static int gcd(int one, int other) {
        return big(one).gcd(big(other)).intValue();
    }

    private static int countUnits(int modulus) {
        int count = 0;
        for (int i = 0; i < modulus; i++) {
            count += gcd(i, modulus) == 1 ? 1 : 0;
        }
        return count;
    }

    private static int orderOf(int number, int modulus) {
        long power = number % modulus;
        int order = 1;
        while (power != 1) {
            power = power * number % modulus;
            order++;
        }
        return order;
    }

    public int units(int modulus) {
        registers(modulus);
        return countUnits(small(modulus, 2, 4096));
    }

    public int order(int register, int modulus) {
        registers(register, modulus);
        int by = small(modulus, 2, 4096);
        int number = registers[register].mod(big(by)).intValue();
        need(gcd(number, by) == 1, new ArithmeticException());
        return orderOf(number, by);
    }

    public int generator(int modulus) {
        registers(modulus);
        int by = small(modulus, 2, 4096);
        int count = countUnits(by);
        for (int i = 1; i < by; i++) {
            if (gcd(i, by) == 1 && orderOf(i, by) == count) {
                return i;
            }
        }
        return 0;
    }

    private static boolean prime(int number) {
        boolean prime = number >= 2;
        for (int i = 2; prime && (long) i * i <= number; i++) {
            prime = number % i != 0;
        }
        return prime;
    }

    public boolean isPrime(int register) {
        registers(register);
        return prime(small(register, 0, 1048575));
    }

    public int modRoot(int to, int from, int prime) {
        registers(to, from, prime);
        int by = small(prime, 3, 1048575);
        need(prime(by), new ArithmeticException());
        long rest = registers[from].mod(big(by)).longValue();
        for (long i = 0; i < by; i++) {
            if (i * i % by == rest) {
                return keep(to, big(i));
            }
        }
        throw new NoSuchElementException();
    }

    public int condition(int rest, int modulus) {
        registers(rest, modulus);
        need(registers[modulus].signum() > 0, new ArithmeticException());
        need(moduli.size() < 6, new IllegalStateException());
        rests.add(registers[rest]);
        moduli.add(registers[modulus]);
        return moduli.size();
    }

    public boolean solve(int to, int multiple) {
        registers(to, multiple);
        need(to != multiple, new IllegalArgumentException());
        BigInteger number = BigInteger.ZERO;
        BigInteger all = BigInteger.ONE;
        for (int i = 0; i < moduli.size(); i++) {
            BigInteger m = moduli.get(i);
            BigInteger g = all.gcd(m);
            BigInteger apart = rests.get(i).subtract(number);
            if (apart.mod(g).signum() != 0) {
                return false;
            }
            BigInteger step = m.divide(g);
            number = number.add(all.multiply(apart.divide(g).multiply(all.divide(g).modInverse(step))));
            all = all.multiply(step);
            number = number.mod(all);
        }
        need(all.bitLength() <= BITS, new IllegalStateException());
        keep(to, number);
        keep(multiple, all);
        return true;
    }

    public int forget() {
        int had = moduli.size();
        moduli.clear();
        rests.clear();
        return had;
    }

    static BigInteger rootOf(BigInteger number, int by) {
        BigInteger low = BigInteger.ZERO;
        BigInteger high = BigInteger.TWO.pow(number.bitLength() / by + 1);
        while (high.subtract(low).compareTo(BigInteger.ONE) > 0) {
            BigInteger middle = low.add(high).shiftRight(1);
            if (middle.pow(by).compareTo(number) <= 0) {
                low = middle;
            } else {
                high = middle;
            }
        }
        return low;
    }

    public int root(int to, int from, int by) {
        registers(to, from);
        range(by, 1, 64);
        need(registers[from].signum() >= 0, new ArithmeticException());
        return keep(to, rootOf(registers[from], by));
    }

    public int perfect(int register) {
        registers(register);
        BigInteger number = registers[register];
        need(number.compareTo(BigInteger.TWO) >= 0, new ArithmeticException());
        for (int by = number.bitLength(); by > 1; by--) {
            if (rootOf(number, by).pow(by).equals(number)) {
                return by;
            }
        }
        return 1;
    }

    public float share(int register) {
        registers(register);
        need(registers[register].bitLength() > 0, new ArithmeticException());
        return (float) registers[register].bitCount() / (float) registers[register].bitLength();
    }

    public double meanLength() {
        double sum = 0;
        for (BigInteger number : registers) {
            sum += number.bitLength();
        }
        return sum / 8;
    }

    public long checksum() {
        long sum = 7;
        for (BigInteger number : registers) {
            sum = 31 * sum + number.signum();
            sum = 31 * sum + number.bitLength();
            for (int at = 0; at < 640; at += 64) {
                sum = 31 * sum + number.shiftRight(at).longValue();
            }
        }
        sum = 31 * sum + text.length();
        for (int i = 0; i < text.length(); i++) {
            sum = 31 * sum + text.charAt(i);
        }
        sum = 31 * sum + row.size();
        for (byte eight : row) {
            sum = 31 * sum + eight;
        }
        return 31 * sum + moduli.size();
    }

    public boolean isTrue(int one, int other, int modulus) {
        registers(one, other, modulus);
        return true;
    }
}
