import java.util.Arrays;
import java.util.NoSuchElementException;

/**
 * Whole numbers in eight registers, and what their remainders do: groups, several moduli at once,
 * squares, roots, bits without end.
 *
 * <p>All rows and numbers are made once, with the object, and used again: no call makes an object,
 * but for the exception that it throws.
 */
public final class Residueworks {
    private static final int REGISTERS = 8;
    private static final int MOST_BITS = 600;
    private static final int LAST_BIT_ASKED = 700;
    private static final int LONGEST_SHIFT = 700;
    private static final int LARGEST_EXPONENT = 64;
    private static final int MOST_BITS_READ = 640;
    private static final int LARGEST_SMALL_MODULUS = 4096;
    private static final int LARGEST_SMALL_PRIME = 1048575;

    private final Whole[] registers = new Whole[REGISTERS];
    private final Text text = new Text();
    private final Row row = new Row();
    private final Division division = new Division();
    private final Residues residues = new Residues();
    private final Roots roots = new Roots();
    private final Conditions conditions = new Conditions();
    private final Theorem theorem = new Theorem();
    private final Whole result = new Whole();
    private final Whole aside = new Whole();

    public Residueworks() {
        for (int i = 0; i < registers.length; i++) {
            registers[i] = new Whole();
        }
    }

    // registers

    public int put(int register, long number) throws IndexOutOfBoundsException {
        Whole target = numberOf(register);
        target.becomeLong(number);
        return target.bitLength();
    }

    public int longer(int register, long low) throws IndexOutOfBoundsException, IllegalStateException {
        Whole target = numberOf(register);
        aside.becomeUnsigned(low);
        result.shiftUp(target, 64);
        result.sumOf(result, aside);
        return keep(target);
    }

    public int copy(int to, int from) throws IndexOutOfBoundsException {
        Whole target = numberOf(to);
        target.become(numberOf(from));
        return target.bitLength();
    }

    public long part(int register, int at) throws IndexOutOfBoundsException, IllegalArgumentException {
        Whole number = numberOf(register);
        needRange(at, 0, LAST_BIT_ASKED);
        return number.window(at);
    }

    public int tells(int register, char what) throws IndexOutOfBoundsException, IllegalArgumentException {
        Whole number = numberOf(register);
        switch (what) {
            case 's':
                return number.sign;
            case 'l':
                return number.bitLength();
            case 'c':
                return number.unlikeBits();
            case 't':
                return number.lowestBit();
            default:
                throw new IllegalArgumentException("nothing such is told");
        }
    }

    public int exact(int register) throws IndexOutOfBoundsException, ArithmeticException {
        Whole number = numberOf(register);
        if (number.bitLength() > 31) {
            throw new ArithmeticException("no int");
        }
        return (int) number.window(0);
    }

    public int compare(int one, int other) throws IndexOutOfBoundsException {
        Whole first = numberOf(one);
        return first.against(numberOf(other));
    }

    // reckoning

    public int does(char sign, int to, int one, int other)
            throws IndexOutOfBoundsException, IllegalArgumentException, ArithmeticException, IllegalStateException {
        Whole target = numberOf(to);
        Whole first = numberOf(one);
        Whole second = numberOf(other);
        if ((sign == '/' || sign == '%') && second.sign == 0) {
            throw new ArithmeticException("divided by 0");
        }
        if (sign == 'm' && second.sign <= 0) {
            throw new ArithmeticException("the modulus is not above 0");
        }
        if (!reckonOfTwo(sign, first, second)) {
            throw new IllegalArgumentException("no such sign");
        }
        return keep(target);
    }

    public int alone(char sign, int to, int from)
            throws IndexOutOfBoundsException, IllegalArgumentException, ArithmeticException, IllegalStateException {
        Whole target = numberOf(to);
        Whole number = numberOf(from);
        if (sign == 'q' && number.sign < 0) {
            throw new ArithmeticException("a root of a number below 0");
        }
        if (!reckonOfOne(sign, number)) {
            throw new IllegalArgumentException("no such sign");
        }
        return keep(target);
    }

    public int shifts(int to, int from, int by)
            throws IndexOutOfBoundsException, IllegalArgumentException, IllegalStateException {
        Whole target = numberOf(to);
        Whole number = numberOf(from);
        needRange(by, -LONGEST_SHIFT, LONGEST_SHIFT);
        // Looked at ahead of the shift: the longest one would not fit into a number's room.
        if (number.sign != 0 && number.bitLength() + by > MOST_BITS) {
            throw new IllegalStateException("too long");
        }
        if (by < 0) {
            result.shiftDownFloor(number, -by);
        } else if (number.sign == 0) {
            result.becomeLong(0);
        } else {
            result.shiftUp(number, by);
        }
        return keep(target);
    }

    public boolean bit(int register, int at) throws IndexOutOfBoundsException, IllegalArgumentException {
        Whole number = numberOf(register);
        needRange(at, 0, LAST_BIT_ASKED);
        return (number.window(at) & 1) == 1;
    }

    public int setBit(int register, int at, char how) throws IndexOutOfBoundsException, IllegalArgumentException {
        Whole target = numberOf(register);
        needRange(at, 0, MOST_BITS - 1);
        aside.becomeBit(at);
        switch (how) {
            case '1':
                result.becomeBits('|', target, aside);
                break;
            case '0':
                result.becomeBits('n', target, aside);
                break;
            case 'f':
                result.becomeBits('^', target, aside);
                break;
            default:
                throw new IllegalArgumentException("no such how");
        }
        target.become(result);
        return target.bitLength();
    }

    public int power(int to, int from, int exponent)
            throws IndexOutOfBoundsException, IllegalArgumentException, IllegalStateException {
        Whole target = numberOf(to);
        Whole number = numberOf(from);
        needRange(exponent, 0, LARGEST_EXPONENT);
        if (!roots.raise(number, exponent, MOST_BITS)) {
            throw new IllegalStateException("too long");
        }
        target.become(roots.raised);
        return target.bitLength();
    }

    public int divides(int quotient, int rest, int one, int other)
            throws IndexOutOfBoundsException, IllegalArgumentException, ArithmeticException, IllegalStateException {
        Whole quotientTarget = numberOf(quotient);
        Whole restTarget = numberOf(rest);
        Whole first = numberOf(one);
        Whole second = numberOf(other);
        if (quotient == rest) {
            throw new IllegalArgumentException("quotient and rest are the same");
        }
        if (second.sign == 0) {
            throw new ArithmeticException("divided by 0");
        }
        division.divide(first, second);
        if (division.quotient.bitLength() > MOST_BITS) {
            throw new IllegalStateException("too long");
        }
        quotientTarget.become(division.quotient);
        restTarget.become(division.rest);
        return quotientTarget.bitLength();
    }

    // text, row

    public int type(char sign) throws IllegalArgumentException, IllegalStateException {
        needRange(sign, 33, 126);
        if (text.isFull()) {
            throw new IllegalStateException("the text is full");
        }
        text.append(sign);
        return text.count;
    }

    public int erase() {
        int had = text.count;
        text.count = 0;
        return had;
    }

    public char signAt(int place) throws IndexOutOfBoundsException {
        if (place < 0 || place >= text.count) {
            throw new IndexOutOfBoundsException("no such place");
        }
        return text.at(place);
    }

    public int read(int to, int radix)
            throws IndexOutOfBoundsException, IllegalArgumentException, IllegalStateException {
        Whole target = numberOf(to);
        needRange(radix, 2, 36);
        if (text.count * (32 - Integer.numberOfLeadingZeros(radix - 1)) > MOST_BITS_READ) {
            throw new IllegalStateException("too much text");
        }
        if (!text.tellNumber(result, radix)) {
            return -1;
        }
        return keep(target);
    }

    public int write(int from, int radix) throws IndexOutOfBoundsException, IllegalArgumentException {
        Whole number = numberOf(from);
        needRange(radix, 2, 36);
        text.show(number, radix);
        return text.count;
    }

    public int push(int eight) throws IllegalArgumentException, IllegalStateException {
        needRange(eight, -128, 127);
        if (row.isFull()) {
            throw new IllegalStateException("the row is full");
        }
        row.append((byte) eight);
        return row.count;
    }

    public int clearRow() {
        int had = row.count;
        row.count = 0;
        return had;
    }

    public int fromRow(int to) throws IndexOutOfBoundsException, IllegalStateException {
        Whole target = numberOf(to);
        if (row.count == 0) {
            return -1;
        }
        row.tellNumber(result);
        return keep(target);
    }

    public int toRow(int from) throws IndexOutOfBoundsException {
        row.show(numberOf(from));
        return row.count;
    }

    public int byteAt(int place) throws IndexOutOfBoundsException {
        if (place < 0 || place >= row.count) {
            throw new IndexOutOfBoundsException("no such place");
        }
        return row.at(place);
    }

    // remainders

    public int modPower(int to, int from, int exponent, int modulus)
            throws IndexOutOfBoundsException, ArithmeticException {
        Whole target = numberOf(to);
        Whole base = numberOf(from);
        Whole times = numberOf(exponent);
        Whole by = numberOf(modulus);
        if (by.sign <= 0) {
            throw new ArithmeticException("the modulus is not above 0");
        }
        if (times.sign < 0) {
            if (!residues.invert(base, by)) {
                throw new ArithmeticException("not prime to the modulus");
            }
            base = residues.inverse;
        }
        residues.raise(base, times, by);
        target.become(residues.raised);
        return target.bitLength();
    }

    public int inverse(int to, int from, int modulus) throws IndexOutOfBoundsException, ArithmeticException {
        Whole target = numberOf(to);
        Whole number = numberOf(from);
        Whole by = numberOf(modulus);
        if (by.sign <= 0) {
            throw new ArithmeticException("the modulus is not above 0");
        }
        if (!residues.invert(number, by)) {
            throw new ArithmeticException("not prime to the modulus");
        }
        target.become(residues.inverse);
        return target.bitLength();
    }

    public int symbol(int one, int other) throws IndexOutOfBoundsException, ArithmeticException {
        Whole number = numberOf(one);
        Whole by = numberOf(other);
        if (by.sign <= 0 || by.lowestBit() != 0) {
            throw new ArithmeticException("not odd, or not above 0");
        }
        return residues.symbolOf(number, by);
    }

    public int units(int modulus) throws IndexOutOfBoundsException, ArithmeticException {
        return Small.unitsOf(smallModulus(modulus));
    }

    public int order(int register, int modulus) throws IndexOutOfBoundsException, ArithmeticException {
        Whole number = numberOf(register);
        int by = smallModulus(modulus);
        int rest = number.leaves(by);
        if (Small.commonDivisor(rest, by) != 1) {
            throw new ArithmeticException("not prime to the modulus");
        }
        return Small.orderOf(rest, by);
    }

    public int generator(int modulus) throws IndexOutOfBoundsException, ArithmeticException {
        return Small.generatorOf(smallModulus(modulus));
    }

    public boolean isPrime(int register) throws IndexOutOfBoundsException, ArithmeticException {
        int number = numberOf(register).within(0, LARGEST_SMALL_PRIME);
        if (number < 0) {
            throw new ArithmeticException("not 0 to 1048575");
        }
        return Small.primeNumber(number);
    }

    public int modRoot(int to, int from, int prime)
            throws IndexOutOfBoundsException, ArithmeticException, NoSuchElementException {
        Whole target = numberOf(to);
        Whole number = numberOf(from);
        int by = numberOf(prime).within(3, LARGEST_SMALL_PRIME);
        if (by < 0 || !Small.primeNumber(by)) {
            throw new ArithmeticException("no odd prime up to 1048575");
        }
        int least = Small.rootBy(number.leaves(by), by);
        if (least < 0) {
            throw new NoSuchElementException("no square leaves that");
        }
        target.becomeLong(least);
        return target.bitLength();
    }

    public int condition(int rest, int modulus)
            throws IndexOutOfBoundsException, ArithmeticException, IllegalStateException {
        Whole left = numberOf(rest);
        Whole by = numberOf(modulus);
        if (by.sign <= 0) {
            throw new ArithmeticException("the modulus is not above 0");
        }
        if (conditions.isFull()) {
            throw new IllegalStateException("enough conditions are told");
        }
        conditions.tell(left, by);
        return conditions.count;
    }

    public boolean solve(int to, int multiple)
            throws IndexOutOfBoundsException, IllegalArgumentException, IllegalStateException {
        Whole target = numberOf(to);
        Whole multipleTarget = numberOf(multiple);
        if (to == multiple) {
            throw new IllegalArgumentException("both registers are the same");
        }
        if (!conditions.agree()) {
            return false;
        }
        if (!conditions.join(MOST_BITS)) {
            throw new IllegalStateException("too long");
        }
        target.become(conditions.number);
        multipleTarget.become(conditions.multiple);
        return true;
    }

    public int forget() {
        int had = conditions.count;
        conditions.count = 0;
        return had;
    }

    // roots

    public int root(int to, int from, int by)
            throws IndexOutOfBoundsException, IllegalArgumentException, ArithmeticException {
        Whole target = numberOf(to);
        Whole number = numberOf(from);
        needRange(by, 1, LARGEST_EXPONENT);
        if (number.sign < 0) {
            throw new ArithmeticException("a root of a number below 0");
        }
        roots.rootOf(number, by);
        target.become(roots.greatest);
        return target.bitLength();
    }

    public int perfect(int register) throws IndexOutOfBoundsException, ArithmeticException {
        Whole number = numberOf(register);
        if (number.sign <= 0 || number.bitLength() < 2) {
            throw new ArithmeticException("below 2");
        }
        return roots.greatestExponent(number);
    }

    // figures

    public float share(int register) throws IndexOutOfBoundsException, ArithmeticException {
        Whole number = numberOf(register);
        int length = number.bitLength();
        if (length == 0) {
            throw new ArithmeticException("the length is 0");
        }
        return (float) number.unlikeBits() / (float) length;
    }

    public double meanLength() {
        int sum = 0;
        for (int i = 0; i < registers.length; i++) {
            sum += registers[i].bitLength();
        }
        return (double) sum / (double) REGISTERS;
    }

    public long checksum() {
        long sum = 7;
        for (int i = 0; i < registers.length; i++) {
            sum = registerSum(sum, registers[i]);
        }
        sum = 31 * sum + text.count;
        for (int place = 0; place < text.count; place++) {
            sum = 31 * sum + text.at(place);
        }
        sum = 31 * sum + row.count;
        for (int place = 0; place < row.count; place++) {
            sum = 31 * sum + row.at(place);
        }
        return 31 * sum + conditions.count;
    }

    public boolean isTrue(int one, int other, int modulus) throws IndexOutOfBoundsException {
        Whole x = numberOf(one);
        Whole y = numberOf(other);
        Whole m = numberOf(modulus);
        boolean all = theorem.bitsHold(x, y) && theorem.divisionsHold(x, y) && theorem.textsHold(x, y)
                && theorem.rootsHold(x) && theorem.symbolsHold(x, y);
        if (all && m.isAboveOne()) {
            all = theorem.groupHolds(x, x, y, m) && theorem.groupHolds(y, x, y, m)
                    && theorem.productsHold(x, y, m) && theorem.ordersHold(x, y, m)
                    && theorem.remaindersHold(x, y, m);
        }
        return all;
    }

    private Whole numberOf(int register) {
        if (register < 0 || register >= registers.length) {
            throw new IndexOutOfBoundsException("no such register");
        }
        return registers[register];
    }

    private void needRange(int number, int least, int greatest) {
        if (number < least || number > greatest) {
            throw new IllegalArgumentException("a number is out of range");
        }
    }

    private int smallModulus(int register) {
        int modulus = numberOf(register).within(2, LARGEST_SMALL_MODULUS);
        if (modulus < 0) {
            throw new ArithmeticException("the modulus is not 2 to 4096");
        }
        return modulus;
    }

    /** Makes the target the result of a call, if it is not too long for a register. */
    private int keep(Whole target) {
        int length = result.bitLength();
        if (length > MOST_BITS) {
            throw new IllegalStateException("too long");
        }
        target.become(result);
        return length;
    }

    /** Leaves in the result what the sign makes of both; false if there is no such sign. */
    private boolean reckonOfTwo(char sign, Whole one, Whole other) {
        switch (sign) {
            case '+':
                result.sumOf(one, other);
                return true;
            case '-':
                result.differenceOf(one, other);
                return true;
            case '*':
                result.productOf(one, other);
                return true;
            case '/':
            case '%':
            case 'm':
            case 'g':
            case 'c':
                result.become(divided(sign, one, other));
                return true;
            case '&':
            case '|':
            case '^':
            case 'n':
                result.becomeBits(sign, one, other);
                return true;
            case '<':
                result.become(one.against(other) <= 0 ? one : other);
                return true;
            case '>':
                result.become(one.against(other) >= 0 ? one : other);
                return true;
            default:
                return false;
        }
    }

    private Whole divided(char sign, Whole one, Whole other) {
        switch (sign) {
            case '/':
                division.divide(one, other);
                return division.quotient;
            case '%':
                division.divide(one, other);
                return division.rest;
            case 'm':
                division.reduce(one, other);
                return division.rest;
            case 'g':
                residues.measure(one, other);
                return residues.divisor;
            default:
                residues.reckonMultiple(one, other);
                return residues.multiple;
        }
    }

    /** Leaves in the result what the sign makes of the number; false if there is no such sign. */
    private boolean reckonOfOne(char sign, Whole number) {
        result.become(number);
        switch (sign) {
            case '-':
                result.sign = -number.sign;
                return true;
            case 'a':
                result.sign = number.sign < 0 ? 1 : number.sign;
                return true;
            case '~':
                aside.becomeLong(-1);
                result.becomeBits('^', number, aside);
                return true;
            case 'q':
                roots.rootOf(number, 2);
                result.become(roots.greatest);
                return true;
            default:
                return false;
        }
    }

    private static long registerSum(long before, Whole number) {
        long sum = 31 * before + number.sign;
        sum = 31 * sum + number.bitLength();
        for (int at = 0; at <= 576; at += 64) {
            sum = 31 * sum + number.window(at);
        }
        return sum;
    }

    /**
     * A whole number: its sign, and its amount in limbs of 30 bits, the lowest first. With 30 bits,
     * the product of two limbs and all carries stay within a long that has a sign.
     */
    private static final class Whole {
        static final int LIMB_BITS = 30;
        static final int MASK = (1 << LIMB_BITS) - 1;
        /** 1260 bits: a product of two numbers of 601 bits, or a root's trial power, fits. */
        static final int ROOM = 42;

        final int[] limbs = new int[ROOM];
        /** How many limbs are used; the uppermost of them is not 0, what stands above counts as 0. */
        int size;
        int sign;

        int limb(int at) {
            return at >= 0 && at < size && at < limbs.length ? limbs[at] : 0;
        }

        void setLimb(int at, int value) {
            if (at >= 0 && at < limbs.length) {
                limbs[at] = value;
            }
        }

        /** Ends a change of limbs: of the lowest ones, at most so many, those up to the last not 0 are used. */
        void settle(int most, int newSign) {
            int top = most < limbs.length ? most : limbs.length;
            while (top > 0 && limbs[top - 1] == 0) {
                top--;
            }
            size = top > 0 ? top : 0;
            sign = size == 0 ? 0 : newSign;
        }

        void become(Whole from) {
            System.arraycopy(from.limbs, 0, limbs, 0, ROOM);
            size = from.size;
            sign = from.sign;
        }

        void becomeAmountOf(Whole from) {
            become(from);
            sign = size == 0 ? 0 : 1;
        }

        void becomeLong(long number) {
            // The amount of the least long is not a long; taken without a sign, it is right.
            becomeUnsigned(number < 0 ? -number : number);
            if (number < 0) {
                sign = -1;
            }
        }

        void becomeUnsigned(long number) {
            setLimb(0, (int) (number & MASK));
            setLimb(1, (int) (number >>> LIMB_BITS & MASK));
            setLimb(2, (int) (number >>> 2 * LIMB_BITS));
            settle(3, 1);
        }

        void becomeBit(int at) {
            Arrays.fill(limbs, 0);
            setLimb(at / LIMB_BITS, 1 << at % LIMB_BITS);
            settle(at / LIMB_BITS + 1, 1);
        }

        boolean isOne() {
            return sign == 1 && size == 1 && limb(0) == 1;
        }

        boolean isAboveOne() {
            return sign == 1 && !isOne();
        }

        /** The number, if it is from least to greatest, both from 0 and of one limb; -1 if it is not. */
        int within(int least, int greatest) {
            if (sign < 0 || size > 1 || limb(0) < least || limb(0) > greatest) {
                return -1;
            }
            return limb(0);
        }

        int amountLength() {
            return size == 0 ? 0 : size * LIMB_BITS - (Integer.numberOfLeadingZeros(limb(size - 1)) - 2);
        }

        int bitLength() {
            int length = amountLength();
            return sign < 0 && lowestBit() == length - 1 ? length - 1 : length;
        }

        int lowestBit() {
            for (int i = 0; i < size; i++) {
                if (limb(i) != 0) {
                    return i * LIMB_BITS + Integer.numberOfTrailingZeros(limb(i));
                }
            }
            return -1;
        }

        /** How many bits are unlike the sign; below 0 those are the bits of the amount less 1. */
        int unlikeBits() {
            int count = sign < 0 ? lowestBit() - 1 : 0;
            for (int i = 0; i < size; i++) {
                count += Integer.bitCount(limb(i));
            }
            return count;
        }

        boolean amountBit(int at) {
            return at >= 0 && (limb(at / LIMB_BITS) >>> at % LIMB_BITS & 1) == 1;
        }

        /** A limb of two's complement without end. */
        int endlessLimb(int at) {
            if (sign >= 0) {
                return limb(at);
            }
            int lowest = lowestBit() / LIMB_BITS;
            if (at < lowest) {
                return 0;
            }
            return at == lowest ? MASK + 1 - limb(at) : MASK ^ limb(at);
        }

        /** 64 bits of two's complement without end, from the bit at on. */
        long window(int at) {
            long bits = 0;
            int last = (at + 63) / LIMB_BITS;
            for (int i = at / LIMB_BITS; i <= last; i++) {
                long limb = endlessLimb(i);
                int up = i * LIMB_BITS - at;
                bits |= up < 0 ? limb >>> -up : limb << up;
            }
            return bits;
        }

        int compareAmount(Whole to) {
            if (size != to.size) {
                return size < to.size ? -1 : 1;
            }
            for (int i = size - 1; i >= 0; i--) {
                if (limb(i) != to.limb(i)) {
                    return limb(i) < to.limb(i) ? -1 : 1;
                }
            }
            return 0;
        }

        int against(Whole to) {
            if (sign != to.sign) {
                return sign < to.sign ? -1 : 1;
            }
            return sign < 0 ? to.compareAmount(this) : compareAmount(to);
        }

        boolean isLike(Whole to) {
            return sign == to.sign && compareAmount(to) == 0;
        }

        /** Either of both may be this number itself. */
        void sumOf(Whole one, Whole other) {
            join(one, other, other.sign);
        }

        /** Either of both may be this number itself. */
        void differenceOf(Whole one, Whole other) {
            join(one, other, -other.sign);
        }

        private void join(Whole one, Whole other, int signOfOther) {
            int signOfOne = one.sign;
            int direction = signOfOne * signOfOther < 0 ? -1 : 1;
            int newSign = signOfOne != 0 ? signOfOne : signOfOther;
            int top = (one.size > other.size ? one.size : other.size) + 1;
            int carry = 0;
            for (int i = 0; i < top; i++) {
                int sum = one.limb(i) + direction * other.limb(i) + carry;
                setLimb(i, sum & MASK);
                carry = sum >> LIMB_BITS;
            }
            if (carry < 0) {
                takeComplement(top);
                newSign = signOfOther;
            }
            settle(top, newSign);
        }

        /** Neither of both may be this number itself. */
        void productOf(Whole one, Whole other) {
            Arrays.fill(limbs, 0);
            for (int i = 0; i < one.size; i++) {
                addTimes(other, one.limb(i), i);
            }
            settle(one.size + other.size, one.sign * other.sign);
        }

        private void addTimes(Whole number, long times, int at) {
            int[] from = number.limbs;
            int count = number.size;
            if (at < 0 || at + count >= limbs.length || count > from.length) {
                return;
            }
            long carry = 0;
            for (int i = 0; i < count; i++) {
                long sum = limbs[at + i] + times * from[i] + carry;
                limbs[at + i] = (int) (sum & MASK);
                carry = sum >>> LIMB_BITS;
            }
            limbs[at + count] = (int) carry;
        }

        /** The number may be this one itself. */
        void shiftUp(Whole number, int by) {
            int limbsUp = by / LIMB_BITS;
            int bitsUp = by % LIMB_BITS;
            int top = number.size + limbsUp + 1;
            // From above, so that what is still to be read is not written over.
            for (int i = top - 1; i >= 0; i--) {
                int low = number.limb(i - limbsUp - 1) >>> LIMB_BITS - bitsUp;
                setLimb(i, (number.limb(i - limbsUp) << bitsUp | low) & MASK);
            }
            settle(top, number.sign);
        }

        /** Shifts the amount down and keeps the sign: cut toward 0. The number may be this one itself. */
        void shiftDown(Whole number, int by) {
            int limbsDown = by / LIMB_BITS;
            int bitsDown = by % LIMB_BITS;
            int top = number.size - limbsDown;
            for (int i = 0; i < top; i++) {
                int high = number.limb(i + limbsDown + 1) << LIMB_BITS - bitsDown;
                setLimb(i, (number.limb(i + limbsDown) >>> bitsDown | high) & MASK);
            }
            settle(top, number.sign);
        }

        /** Shifts down, rounded down. */
        void shiftDownFloor(Whole number, int by) {
            boolean cut = number.sign < 0 && number.lowestBit() < by;
            shiftDown(number, by);
            if (cut) {
                grow(1, 1);
                sign = -1;
            }
        }

        /** Makes the amount itself times a factor, and more added; both from 0 on, and of one limb. */
        void grow(int factor, int more) {
            int top = size + 1;
            long carry = more;
            for (int i = 0; i < top; i++) {
                long sum = (long) limb(i) * factor + carry;
                setLimb(i, (int) (sum & MASK));
                carry = sum >>> LIMB_BITS;
            }
            settle(top, sign < 0 ? -1 : 1);
        }

        /** Divides the amount by a number of one limb, above 0, and returns the rest. */
        int shrink(int by) {
            if (by <= 0) {
                return 0;
            }
            long rest = 0;
            for (int i = size - 1; i >= 0; i--) {
                long upper = rest << LIMB_BITS | limb(i);
                setLimb(i, (int) (upper / by));
                rest = upper % by;
            }
            settle(size, sign);
            return (int) rest;
        }

        /** What the number leaves by a modulus of one limb, above 0: from 0 to the modulus less 1. */
        int leaves(int modulus) {
            if (modulus <= 0) {
                return 0;
            }
            long rest = 0;
            for (int i = size - 1; i >= 0; i--) {
                rest = (rest << LIMB_BITS | limb(i)) % modulus;
            }
            return (int) (sign < 0 && rest > 0 ? modulus - rest : rest);
        }

        /** Joins bits: '&amp;', '|', '^', 'n' for and not. Neither of both may be this number itself. */
        void becomeBits(char how, Whole one, Whole other) {
            // One limb more than both have holds nothing but the sign of each.
            int top = (one.size > other.size ? one.size : other.size) + 1;
            for (int i = 0; i < top; i++) {
                setLimb(i, joinedBits(how, one.endlessLimb(i), other.endlessLimb(i)) & MASK);
            }
            boolean below = joinedBits(how, one.sign < 0 ? -1 : 0, other.sign < 0 ? -1 : 0) < 0;
            if (below) {
                takeComplement(top);
            }
            settle(top, below ? -1 : 1);
        }

        private static int joinedBits(char how, int one, int other) {
            switch (how) {
                case '&':
                    return one & other;
                case '|':
                    return one | other;
                case '^':
                    return one ^ other;
                default:
                    return one & ~other;
            }
        }

        /** Makes limbs, which are two's complement of a number below 0, those of its amount. */
        private void takeComplement(int top) {
            int carry = 1;
            for (int i = 0; i < top && i < limbs.length; i++) {
                int sum = (limbs[i] ^ MASK) + carry;
                limbs[i] = sum & MASK;
                carry = sum >>> LIMB_BITS;
            }
        }
    }

    /** Long division: the quotient cut toward 0, the rest with the sign of what is divided. */
    private static final class Division {
        final Whole quotient = new Whole();
        final Whole rest = new Whole();
        private final Whole divisor = new Whole();

        /** Divides by a number that is not 0; either may be the quotient or the rest of the last time. */
        void divide(Whole number, Whole by) {
            int signOfNumber = number.sign;
            int signOfQuotient = number.sign * by.sign;
            if (by.size == 0 || number.compareAmount(by) < 0) {
                rest.become(number);
                quotient.settle(0, 0);
                return;
            }
            // With the highest bit of its highest limb set, a divisor lets the digits be guessed well.
            int shift = Integer.numberOfLeadingZeros(by.limb(by.size - 1)) - 2;
            divisor.shiftUp(by, shift);
            rest.shiftUp(number, shift);
            rest.setLimb(rest.size, 0);
            int steps = rest.size - divisor.size;
            for (int at = steps; at >= 0; at--) {
                long digit = guessDigit(at + divisor.size);
                if (digit > 0 && subtractTimes(digit, at)) {
                    addBack(at);
                    digit--;
                }
                quotient.setLimb(at, (int) digit);
            }
            quotient.settle(steps + 1, signOfQuotient);
            rest.settle(divisor.size, 1);
            rest.shiftDown(rest, shift);
            rest.sign = rest.sign * signOfNumber;
        }

        /** Leaves a number by a modulus above 0 in rest, from 0 on. The modulus may not be the rest itself. */
        void reduce(Whole number, Whole modulus) {
            divide(number, modulus);
            if (rest.sign < 0) {
                rest.sumOf(rest, modulus);
            }
        }

        /** A digit that is right or, seldom, 1 too large (Knuth's algorithm D). */
        private long guessDigit(int top) {
            long head = divisor.limb(divisor.size - 1);
            if (head == 0) {
                return 0;
            }
            long next = divisor.limb(divisor.size - 2);
            long upper = (long) rest.limb(top) << Whole.LIMB_BITS | rest.limb(top - 1);
            long digit = upper / head;
            long left = upper % head;
            for (int i = 0; i < 4 && left <= Whole.MASK; i++) {
                long lower = left << Whole.LIMB_BITS | rest.limb(top - 2);
                if (digit <= Whole.MASK && digit * next <= lower) {
                    break;
                }
                digit--;
                left += head;
            }
            return digit;
        }

        /** Takes the divisor, so many times, away from the rest; true if that was more than there was. */
        private boolean subtractTimes(long times, int at) {
            int[] from = rest.limbs;
            int[] taken = divisor.limbs;
            int count = divisor.size;
            if (at < 0 || at + count >= from.length || count > taken.length) {
                return false;
            }
            long carry = 0;
            for (int i = 0; i < count; i++) {
                long difference = from[at + i] - times * taken[i] + carry;
                from[at + i] = (int) (difference & Whole.MASK);
                carry = difference >> Whole.LIMB_BITS;
            }
            long last = from[at + count] + carry;
            from[at + count] = (int) (last & Whole.MASK);
            return last < 0;
        }

        private void addBack(int at) {
            int carry = 0;
            for (int i = 0; i < divisor.size; i++) {
                int sum = rest.limb(at + i) + divisor.limb(i) + carry;
                rest.setLimb(at + i, sum & Whole.MASK);
                carry = sum >>> Whole.LIMB_BITS;
            }
            // The carry out of the last limb takes the borrow back: nothing is left there.
            rest.setLimb(at + divisor.size, 0);
        }
    }

    /** Common divisors, and powers, inverses and symbols by a modulus of any length. */
    private static final class Residues {
        /** Euclid's algorithm takes fewer than 900 steps for numbers of 601 bits. */
        private static final int MOST_STEPS = 2000;

        final Whole raised = new Whole();
        final Whole inverse = new Whole();
        final Whole divisor = new Whole();
        final Whole multiple = new Whole();
        private final Division division = new Division();
        private final Whole base = new Whole();
        private final Whole product = new Whole();
        private final Whole numberOne = new Whole();
        private final Whole numberTwo = new Whole();
        private final Whole factorOne = new Whole();
        private final Whole factorTwo = new Whole();

        /** Leaves in raised the number to the amount of the exponent, by a modulus above 0. */
        void raise(Whole number, Whole exponent, Whole modulus) {
            division.reduce(number, modulus);
            base.become(division.rest);
            raised.becomeLong(1);
            division.divide(raised, modulus);
            raised.become(division.rest);
            for (int at = exponent.amountLength() - 1; at >= 0; at--) {
                multiplyRaised(raised, modulus);
                if (exponent.amountBit(at)) {
                    multiplyRaised(base, modulus);
                }
            }
        }

        private void multiplyRaised(Whole by, Whole modulus) {
            product.productOf(raised, by);
            division.divide(product, modulus);
            raised.become(division.rest);
        }

        /** Leaves in inverse what takes the number to 1 by a modulus above 0; false if nothing does. */
        boolean invert(Whole number, Whole modulus) {
            Whole older = numberOne;
            Whole newer = numberTwo;
            Whole olderFactor = factorOne;
            Whole newerFactor = factorTwo;
            division.reduce(number, modulus);
            newer.become(division.rest);
            older.become(modulus);
            olderFactor.becomeLong(0);
            newerFactor.becomeLong(1);
            for (int step = 0; step < MOST_STEPS && newer.sign != 0; step++) {
                division.divide(older, newer);
                product.productOf(division.quotient, newerFactor);
                olderFactor.differenceOf(olderFactor, product);
                older.become(division.rest);
                Whole swapped = older;
                older = newer;
                newer = swapped;
                swapped = olderFactor;
                olderFactor = newerFactor;
                newerFactor = swapped;
            }
            division.reduce(olderFactor, modulus);
            inverse.become(division.rest);
            return older.isOne();
        }

        /** Leaves in divisor the greatest common divisor, 0 if both are 0. */
        void measure(Whole one, Whole other) {
            Whole older = numberOne;
            Whole newer = numberTwo;
            older.becomeAmountOf(one);
            newer.becomeAmountOf(other);
            for (int step = 0; step < MOST_STEPS && newer.sign != 0; step++) {
                division.divide(older, newer);
                older.become(division.rest);
                Whole swapped = older;
                older = newer;
                newer = swapped;
            }
            divisor.become(older);
        }

        /** Leaves in multiple the least common multiple, 0 if one of both is 0. */
        void reckonMultiple(Whole one, Whole other) {
            if (one.sign == 0 || other.sign == 0) {
                multiple.becomeLong(0);
                return;
            }
            measure(one, other);
            division.divide(one, divisor);
            multiple.productOf(division.quotient, other);
            multiple.sign = 1;
        }

        /** The symbol of a number by an odd one above 0, by reciprocity. */
        int symbolOf(Whole number, Whole odd) {
            Whole top = numberOne;
            Whole bottom = numberTwo;
            division.reduce(number, odd);
            top.become(division.rest);
            bottom.become(odd);
            int symbol = 1;
            for (int step = 0; step < MOST_STEPS && top.sign != 0; step++) {
                int twos = top.lowestBit();
                top.shiftDown(top, twos);
                int eighth = bottom.limb(0) & 7;
                if (twos % 2 == 1 && (eighth == 3 || eighth == 5)) {
                    symbol = -symbol;
                }
                if ((top.limb(0) & bottom.limb(0) & 3) == 3) {
                    symbol = -symbol;
                }
                division.divide(bottom, top);
                bottom.become(division.rest);
                Whole swapped = bottom;
                bottom = top;
                top = swapped;
            }
            return bottom.isOne() ? symbol : 0;
        }
    }

    /** Powers, roots, and of which exponent a number is a power. */
    private static final class Roots {
        /** A number of 600 bits is no power by more than nine prime exponents, one after the other. */
        private static final int MOST_TIMES_A_PRIME = 10;

        final Whole raised = new Whole();
        final Whole greatest = new Whole();
        private final Whole spare = new Whole();
        private final Whole trial = new Whole();
        private final Whole step = new Whole();
        private final Whole base = new Whole();

        /**
         * Leaves in raised the number to the exponent, from 0 on; false as soon as it is seen to have
         * more than so many bits (the powers on the way are no longer than the last one).
         */
        boolean raise(Whole number, int exponent, int mostBits) {
            if (exponent == 0) {
                raised.becomeLong(1);
            } else {
                raised.become(number);
            }
            // The uppermost bit of the exponent is the number itself; the others follow it.
            for (int at = 30 - Integer.numberOfLeadingZeros(exponent); at >= 0; at--) {
                spare.productOf(raised, raised);
                if (spare.bitLength() > mostBits) {
                    return false;
                }
                if ((exponent >>> at & 1) == 1) {
                    raised.productOf(spare, number);
                } else {
                    raised.become(spare);
                }
                if (raised.bitLength() > mostBits) {
                    return false;
                }
            }
            return raised.bitLength() <= mostBits;
        }

        /** Leaves in greatest the root of a number from 0 on, rounded down: bit by bit, from above. */
        void rootOf(Whole number, int by) {
            greatest.becomeLong(0);
            if (by == 1) {
                greatest.become(number);
            }
            if (by <= 1) {
                return;
            }
            int length = number.amountLength();
            for (int at = (length + by - 1) / by - 1; at >= 0; at--) {
                step.becomeBit(at);
                trial.sumOf(greatest, step);
                if (raise(trial, by, length) && raised.compareAmount(number) <= 0) {
                    greatest.become(trial);
                }
            }
        }

        /** The greatest exponent by which a number from 2 on is a power. */
        int greatestExponent(Whole number) {
            int exponent = 1;
            int length = number.amountLength();
            base.become(number);
            for (int prime = 2; prime < length && prime < base.amountLength(); prime++) {
                if (!Small.primeNumber(prime)) {
                    continue;
                }
                for (int i = 0; i < MOST_TIMES_A_PRIME && isPower(base, prime); i++) {
                    base.become(greatest);
                    exponent *= prime;
                }
            }
            return exponent;
        }

        private boolean isPower(Whole number, int exponent) {
            rootOf(number, exponent);
            return raise(greatest, exponent, number.amountLength()) && raised.isLike(number);
        }
    }

    /** Small moduli: numbers from 0 to 1048575, so that products fit into a long. */
    private static final class Small {
        private static final int MOST_BITS_OF_ONE = 31;

        static int commonDivisor(int one, int other) {
            int older = one;
            int newer = other;
            for (int step = 0; step < 100 && newer != 0; step++) {
                int rest = older % newer;
                older = newer;
                newer = rest;
            }
            return older;
        }

        static boolean primeNumber(int number) {
            for (int i = 2; i * i <= number && i <= 1024; i++) {
                if (number % i == 0) {
                    return false;
                }
            }
            return number >= 2;
        }

        /** How many numbers from 0 to the modulus less 1 are prime to it. */
        static int unitsOf(int modulus) {
            int units = modulus;
            int left = modulus;
            for (int i = 2; i * i <= left && i <= 1024; i++) {
                if (left % i == 0) {
                    units -= units / i;
                    left = withoutFactor(left, i);
                }
            }
            return left > 1 ? units - units / left : units;
        }

        /** The number, divided by a factor from 2 on as often as that goes. */
        private static int withoutFactor(int number, int factor) {
            int left = number;
            for (int i = 0; i < MOST_BITS_OF_ONE && factor > 1 && left % factor == 0; i++) {
                left /= factor;
            }
            return left;
        }

        static int raise(int number, int exponent, int modulus) {
            if (modulus <= 0) {
                return 0;
            }
            long power = 1 % modulus;
            for (int at = MOST_BITS_OF_ONE - 1; at >= 0; at--) {
                power = power * power % modulus;
                if ((exponent >>> at & 1) == 1) {
                    power = power * number % modulus;
                }
            }
            return (int) power;
        }

        /** The order of a number that is prime to the modulus, which is above 1; 0 if it is not. */
        static int orderOf(int number, int modulus) {
            if (modulus <= 0) {
                return 0;
            }
            int power = 1;
            for (int order = 1; order < modulus; order++) {
                power = (int) ((long) power * number % modulus);
                if (power == 1) {
                    return order;
                }
            }
            return 0;
        }

        /** The least number whose powers are all that are prime to the modulus; 0 if there is none. */
        static int generatorOf(int modulus) {
            if (!hasGenerator(modulus)) {
                return 0;
            }
            int units = unitsOf(modulus);
            for (int number = 1; number < modulus; number++) {
                if (commonDivisor(number, modulus) == 1 && orderOf(number, modulus) == units) {
                    return number;
                }
            }
            return 0;
        }

        /** Only 2, 4, a power of an odd prime, and twice such a power have one. */
        private static boolean hasGenerator(int modulus) {
            if (modulus == 2 || modulus == 4) {
                return true;
            }
            int left = modulus % 2 == 0 ? modulus / 2 : modulus;
            if (left % 2 == 0) {
                return false;
            }
            for (int i = 3; i * i <= left && i <= 1024; i += 2) {
                if (left % i == 0) {
                    return withoutFactor(left, i) == 1;
                }
            }
            return true;
        }

        /**
         * The least number whose square leaves a number, from 0 on, by an odd prime; -1 if there is
         * none (the algorithm of Tonelli and Shanks).
         */
        static int rootBy(int number, int prime) {
            if (number == 0) {
                return 0;
            }
            if (raise(number, (prime - 1) / 2, prime) != 1) {
                return -1;
            }
            int odd = withoutFactor(prime - 1, 2);
            long twist = raise(leastNoSquare(prime), odd, prime);
            long left = raise(number, odd, prime);
            long root = raise(number, (odd + 1) / 2, prime);
            for (int round = 0; round < MOST_BITS_OF_ONE && left != 1 && prime > 0; round++) {
                // The twist of twice the order of what is left takes one two out of that order.
                for (int twos = twosOfOrder(twist, prime) - twosOfOrder(left, prime); twos > 1; twos--) {
                    twist = twist * twist % prime;
                }
                root = root * twist % prime;
                twist = twist * twist % prime;
                left = left * twist % prime;
            }
            return (int) (root < prime - root ? root : prime - root);
        }

        private static int leastNoSquare(int prime) {
            for (int number = 2; number < prime; number++) {
                if (raise(number, (prime - 1) / 2, prime) != 1) {
                    return number;
                }
            }
            return 0;
        }

        /** How often a number is to be squared until it is 1. */
        private static int twosOfOrder(long number, int prime) {
            long power = number;
            int twos = 0;
            while (twos < MOST_BITS_OF_ONE && power != 1 && prime > 0) {
                power = power * power % prime;
                twos++;
            }
            return twos;
        }
    }

    /** Up to six conditions, and the numbers that keep all of them. */
    private static final class Conditions {
        private static final int MOST = 6;

        final Whole number = new Whole();
        final Whole multiple = new Whole();
        int count;
        private final Whole[] rests = new Whole[MOST];
        private final Whole[] moduli = new Whole[MOST];
        private final Division division = new Division();
        private final Residues residues = new Residues();
        private final Whole difference = new Whole();
        private final Whole factor = new Whole();
        private final Whole step = new Whole();
        private final Whole product = new Whole();
        private final Whole longer = new Whole();

        Conditions() {
            for (int i = 0; i < MOST; i++) {
                rests[i] = new Whole();
                moduli[i] = new Whole();
            }
        }

        boolean isFull() {
            return count >= MOST;
        }

        void tell(Whole rest, Whole modulus) {
            if (count >= 0 && count < rests.length && count < moduli.length) {
                division.reduce(rest, modulus);
                rests[count].become(division.rest);
                moduli[count].become(modulus);
                count++;
            }
        }

        /** Whether there is a number that keeps all: each two leave the same by their common divisor. */
        boolean agree() {
            for (int i = 0; i < count && i < MOST; i++) {
                for (int j = 0; j < i; j++) {
                    residues.measure(moduli[i], moduli[j]);
                    difference.differenceOf(rests[i], rests[j]);
                    division.divide(difference, residues.divisor);
                    if (division.rest.sign != 0) {
                        return false;
                    }
                }
            }
            return true;
        }

        /** Leaves in number and multiple what keeps all, if they agree; false if that grows too long. */
        boolean join(int mostBits) {
            number.becomeLong(0);
            multiple.becomeLong(1);
            for (int i = 0; i < count && i < MOST; i++) {
                residues.measure(multiple, moduli[i]);
                division.divide(moduli[i], residues.divisor);
                step.become(division.quotient);
                longer.productOf(multiple, step);
                if (longer.bitLength() > mostBits) {
                    return false;
                }
                difference.differenceOf(rests[i], number);
                division.divide(difference, residues.divisor);
                difference.become(division.quotient);
                division.divide(multiple, residues.divisor);
                factor.become(division.quotient);
                residues.invert(factor, step);
                product.productOf(difference, residues.inverse);
                division.reduce(product, step);
                product.productOf(multiple, division.rest);
                number.sumOf(number, product);
                multiple.become(longer);
            }
            return true;
        }
    }

    /** The text: signs, and what number they write. */
    private static final class Text {
        private static final int MOST = 610;

        private final char[] signs = new char[MOST];
        private final Whole left = new Whole();
        int count;

        boolean isFull() {
            return count >= MOST;
        }

        void append(char sign) {
            if (count >= 0 && count < signs.length) {
                signs[count] = sign;
                count++;
            }
        }

        char at(int place) {
            return place >= 0 && place < count && place < signs.length ? signs[place] : ' ';
        }

        /** Makes the text a number by a radix from 2 to 36. */
        void show(Whole number, int radix) {
            count = 0;
            left.becomeAmountOf(number);
            if (left.sign == 0) {
                append('0');
            }
            for (int i = 0; i < MOST && left.sign != 0; i++) {
                append(signOf(left.shrink(radix)));
            }
            if (number.sign < 0) {
                append('-');
            }
            turnRound();
        }

        private void turnRound() {
            int low = 0;
            for (int high = count - 1; low < high && high < signs.length; high--) {
                char sign = signs[low];
                signs[low] = signs[high];
                signs[high] = sign;
                low++;
            }
        }

        /** Makes the target the number that the text writes; false if it writes none by the radix. */
        boolean tellNumber(Whole target, int radix) {
            int first = at(0) == '+' || at(0) == '-' ? 1 : 0;
            if (first >= count) {
                return false;
            }
            target.becomeLong(0);
            for (int place = first; place < count; place++) {
                int digit = digitOf(at(place));
                if (digit < 0 || digit >= radix) {
                    return false;
                }
                target.grow(radix, digit);
            }
            if (at(0) == '-') {
                target.sign = -target.sign;
            }
            return true;
        }

        private static char signOf(int digit) {
            return (char) (digit < 10 ? '0' + digit : 'a' + digit - 10);
        }

        private static int digitOf(char sign) {
            if (sign >= '0' && sign <= '9') {
                return sign - '0';
            }
            if (sign >= 'a' && sign <= 'z') {
                return sign - 'a' + 10;
            }
            if (sign >= 'A' && sign <= 'Z') {
                return sign - 'A' + 10;
            }
            return -1;
        }
    }

    /** The row: bytes of two's complement, the highest first. */
    private static final class Row {
        private static final int MOST = 80;

        private final byte[] bytes = new byte[MOST];
        private final Whole round = new Whole();
        int count;

        boolean isFull() {
            return count >= MOST;
        }

        void append(byte eight) {
            if (count >= 0 && count < bytes.length) {
                bytes[count] = eight;
                count++;
            }
        }

        int at(int place) {
            return place >= 0 && place < count && place < bytes.length ? bytes[place] : 0;
        }

        /** Makes the row a number, in as few bytes as hold it and its sign. */
        void show(Whole number) {
            count = 0;
            for (int at = number.bitLength() / 8 * 8; at >= 0; at -= 8) {
                append((byte) number.window(at));
            }
        }

        void tellNumber(Whole target) {
            target.becomeLong(0);
            for (int place = 0; place < count; place++) {
                target.grow(256, at(place) & 255);
            }
            if (at(0) < 0) {
                round.becomeBit(8 * count);
                target.differenceOf(target, round);
            }
        }
    }

    /** The theorem, part by part, of numbers that registers have. */
    private static final class Theorem {
        /** More than a product of a modulus and the next one can have. */
        private static final int ANY_LENGTH = 1250;
        private static final int EXPONENTS = 4096;

        private final Division division = new Division();
        private final Residues residues = new Residues();
        private final Roots roots = new Roots();
        private final Conditions conditions = new Conditions();
        private final Text text = new Text();
        private final Row row = new Row();
        private final Whole one = new Whole();
        private final Whole minusOne = new Whole();
        private final Whole a = new Whole();
        private final Whole b = new Whole();
        private final Whole c = new Whole();
        private final Whole d = new Whole();
        private final Whole inverse = new Whole();
        private final Whole exponentOne = new Whole();
        private final Whole exponentTwo = new Whole();

        Theorem() {
            one.becomeLong(1);
            minusOne.becomeLong(-1);
        }

        /** Part 5. */
        boolean bitsHold(Whole x, Whole y) {
            return bitsOfOneHold(x, y.leaves(MOST_BITS)) && bitsOfOneHold(y, x.leaves(MOST_BITS))
                    && lengthHolds(x) && lengthHolds(y) && bitsOfTwoHold(x, y);
        }

        private boolean bitsOfOneHold(Whole x, int by) {
            a.becomeBits('^', x, minusOne);
            b.differenceOf(minusOne, x);
            if (!a.isLike(b)) {
                return false;
            }
            row.show(x);
            row.tellNumber(a);
            return a.isLike(x) && shiftsHold(x, by);
        }

        private boolean shiftsHold(Whole x, int by) {
            b.becomeBit(by);
            a.shiftUp(x, by);
            c.productOf(x, b);
            if (!a.isLike(c)) {
                return false;
            }
            division.reduce(x, b);
            c.differenceOf(x, division.rest);
            division.divide(c, b);
            a.shiftDownFloor(x, by);
            return a.isLike(division.quotient);
        }

        private boolean lengthHolds(Whole x) {
            int length = x.bitLength();
            return isWithin(x, length) && (length == 0 || !isWithin(x, length - 1));
        }

        private boolean isWithin(Whole x, int length) {
            a.becomeBit(length);
            boolean below = x.against(a) < 0;
            a.sign = -1;
            return below && x.against(a) >= 0;
        }

        private boolean bitsOfTwoHold(Whole x, Whole y) {
            a.becomeBits('&', x, y);
            b.becomeBits('|', x, y);
            c.sumOf(a, b);
            d.sumOf(x, y);
            if (!c.isLike(d)) {
                return false;
            }
            d.becomeBits('^', x, y);
            c.sumOf(a, d);
            return c.isLike(b);
        }

        /** Part 6, division. */
        boolean divisionsHold(Whole x, Whole y) {
            return divisionHolds(x, y) && divisionHolds(y, x);
        }

        private boolean divisionHolds(Whole x, Whole by) {
            if (by.sign == 0) {
                return true;
            }
            division.divide(x, by);
            a.productOf(division.quotient, by);
            a.sumOf(a, division.rest);
            if (!a.isLike(x) || division.rest.compareAmount(by) >= 0 || division.rest.sign * x.sign < 0) {
                return false;
            }
            if (by.sign < 0) {
                return true;
            }
            division.reduce(x, by);
            if (division.rest.sign < 0 || division.rest.against(by) >= 0) {
                return false;
            }
            a.differenceOf(x, division.rest);
            division.divide(a, by);
            return division.rest.sign == 0;
        }

        /** Part 6, text. */
        boolean textsHold(Whole x, Whole y) {
            return textHolds(x, 2) && textHolds(x, 10) && textHolds(x, 36)
                    && textHolds(y, 2) && textHolds(y, 10) && textHolds(y, 36);
        }

        private boolean textHolds(Whole x, int radix) {
            text.show(x, radix);
            return text.tellNumber(a, radix) && a.isLike(x);
        }

        /** Part 4. */
        boolean rootsHold(Whole x) {
            return rootHolds(x, 2) && rootHolds(x, 3);
        }

        private boolean rootHolds(Whole x, int by) {
            a.becomeAmountOf(x);
            roots.rootOf(a, by);
            b.sumOf(roots.greatest, one);
            boolean low = roots.raise(roots.greatest, by, ANY_LENGTH) && roots.raised.against(a) <= 0;
            boolean high = roots.raise(b, by, ANY_LENGTH) && roots.raised.against(a) > 0;
            return low && high;
        }

        /** Part 3. */
        boolean symbolsHold(Whole x, Whole y) {
            makeOddAmount(a, x);
            makeOddAmount(b, y);
            residues.measure(a, b);
            if (!residues.divisor.isOne()) {
                return true;
            }
            int symbolOne = residues.symbolOf(a, b);
            int symbolTwo = residues.symbolOf(b, a);
            boolean bothLeaveThree = (a.limb(0) & b.limb(0) & 3) == 3;
            if (symbolOne * symbolTwo != (bothLeaveThree ? -1 : 1)) {
                return false;
            }
            c.productOf(x, a);
            return residues.symbolOf(c, b) == residues.symbolOf(x, b) * symbolOne && squareHolds(a, b, symbolOne);
        }

        private void makeOddAmount(Whole target, Whole number) {
            c.becomeAmountOf(number);
            target.becomeBits('|', c, one);
        }

        /** Looks for a square only if the odd number is a small prime. */
        private boolean squareHolds(Whole number, Whole odd, int symbol) {
            int prime = odd.within(3, LARGEST_SMALL_PRIME);
            if (prime < 0 || !Small.primeNumber(prime)) {
                return true;
            }
            int rest = number.leaves(prime);
            int left = Small.raise(rest, (prime - 1) / 2, prime);
            int root = Small.rootBy(rest, prime);
            if (root < 0) {
                return symbol == -1 && left == prime - 1;
            }
            return symbol == 1 && left == 1 && Small.raise(root, 2, prime) == rest;
        }

        /** Part 1, of a number: its powers by x and y as exponents, also below 0. */
        boolean groupHolds(Whole number, Whole x, Whole y, Whole m) {
            int timesOne = x.limb(0) % EXPONENTS;
            int timesTwo = y.limb(0) % EXPONENTS;
            boolean prime = residues.invert(number, m);
            inverse.become(residues.inverse);
            residues.measure(number, m);
            if (prime != residues.divisor.isOne() || !powersHold(number, timesOne, timesTwo, m)) {
                return false;
            }
            return !prime || inverseHolds(number, timesOne, m) && inverseHolds(number, timesTwo, m)
                    && powersHold(inverse, timesOne, timesTwo, m);
        }

        private boolean powersHold(Whole number, int timesOne, int timesTwo, Whole m) {
            exponentOne.becomeLong(timesOne);
            exponentTwo.becomeLong(timesTwo);
            residues.raise(number, exponentOne, m);
            a.become(residues.raised);
            residues.raise(number, exponentTwo, m);
            c.productOf(a, residues.raised);
            division.reduce(c, m);
            b.become(division.rest);
            residues.raise(a, exponentTwo, m);
            a.become(residues.raised);
            exponentOne.becomeLong(timesOne + timesTwo);
            residues.raise(number, exponentOne, m);
            if (!residues.raised.isLike(b)) {
                return false;
            }
            exponentOne.becomeLong((long) timesOne * timesTwo);
            residues.raise(number, exponentOne, m);
            return residues.raised.isLike(a);
        }

        /** That the number, and its powers, to those of the inverse, are 1. */
        private boolean inverseHolds(Whole number, int times, Whole m) {
            c.productOf(number, inverse);
            division.reduce(c, m);
            if (!division.rest.isOne()) {
                return false;
            }
            exponentOne.becomeLong(times);
            residues.raise(number, exponentOne, m);
            a.become(residues.raised);
            residues.raise(inverse, exponentOne, m);
            c.productOf(a, residues.raised);
            division.reduce(c, m);
            return division.rest.isOne();
        }

        /** Part 1, of the powers of a product. */
        boolean productsHold(Whole x, Whole y, Whole m) {
            return productHolds(x, y, x.limb(0) % EXPONENTS, m) && productHolds(x, y, y.limb(0) % EXPONENTS, m);
        }

        private boolean productHolds(Whole x, Whole y, int times, Whole m) {
            exponentOne.becomeLong(times);
            residues.raise(x, exponentOne, m);
            a.become(residues.raised);
            residues.raise(y, exponentOne, m);
            c.productOf(a, residues.raised);
            division.reduce(c, m);
            b.become(division.rest);
            c.productOf(x, y);
            residues.raise(c, exponentOne, m);
            return residues.raised.isLike(b);
        }

        /** Part 1, of small moduli: the order, and how many units there are. */
        boolean ordersHold(Whole x, Whole y, Whole m) {
            return orderHolds(x, m) && orderHolds(y, m);
        }

        private boolean orderHolds(Whole number, Whole m) {
            int modulus = m.within(2, LARGEST_SMALL_MODULUS);
            if (modulus < 0) {
                return true;
            }
            int rest = number.leaves(modulus);
            if (Small.commonDivisor(rest, modulus) != 1) {
                return true;
            }
            int order = Small.orderOf(rest, modulus);
            int units = Small.unitsOf(modulus);
            return order > 0 && units % order == 0 && Small.raise(rest, order, modulus) == 1
                    && Small.raise(rest, units, modulus) == 1;
        }

        /** Part 2. */
        boolean remaindersHold(Whole x, Whole y, Whole m) {
            d.sumOf(m, one);
            conditions.count = 0;
            conditions.tell(x, m);
            conditions.tell(y, d);
            if (!conditions.agree() || !conditions.join(ANY_LENGTH)) {
                return false;
            }
            return isBelowMultiple() && isKept(x, m) && isKept(y, d);
        }

        /** The moduli have no common divisor, so that their least common multiple is their product. */
        private boolean isBelowMultiple() {
            a.sumOf(d, minusOne);
            b.productOf(a, d);
            return conditions.multiple.isLike(b) && conditions.number.sign >= 0
                    && conditions.number.against(conditions.multiple) < 0;
        }

        private boolean isKept(Whole rest, Whole modulus) {
            a.differenceOf(conditions.number, rest);
            division.divide(a, modulus);
            return division.rest.sign == 0;
        }
    }
}
