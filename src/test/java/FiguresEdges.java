import java.math.BigInteger;

/** The edges that promises 37 to 42 name. */
final class FiguresEdges {
    private static final String NO_REGISTER = "Throws `IndexOutOfBoundsException` if there is no such register";
    private static final String REGISTER = "- `register`: 0 to 7";
    private static final int[] BEYOND = {-1, 8, Integer.MIN_VALUE, Integer.MAX_VALUE};
    private static final BigInteger ONE = BigInteger.ONE;

    private FiguresEdges() {
    }

    static void run() {
        promise37();
        promise37Refused();
        promise38();
        promise39();
        promise40();
        promise41();
        promise41Full();
        promise42();
        promise42Refused();
    }

    private static BigInteger big(long number) {
        return Check.big(number);
    }

    private static void root(BigInteger number, int by, BigInteger want) {
        Edge.writes(State.some().set(1, number), 2, want, "root", 2, 1, by);
    }

    private static void promise37() {
        Edge.says(37, "Makes a register the greatest number whose power is at most another one.");
        Edge.says(37, "- `by`: 1 to 64, the exponent");
        for (int by = 1; by <= 64; by++) {
            root(big(0), by, big(0));
            root(ONE, by, ONE);
            BigInteger last = Reference.rootOf(Check.LONGEST, by);
            root(Check.LONGEST, by, last);
            root(last.pow(by), by, last);
            root(last.pow(by).subtract(ONE), by, last.subtract(ONE));
            root(Check.two(by), by, big(2));
            root(Check.two(by).subtract(ONE), by, by == 1 ? big(1) : ONE);
            root(Check.two(by).add(ONE), by, by == 1 ? big(3) : big(2));
        }
        root(Check.LONGEST, 1, Check.LONGEST);
        root(Check.LONGEST, 64, big(663));
        root(Check.two(576), 64, big(512));
        for (int register = 0; register < 8; register++) {
            Edge.says(37, "- `to`: 0 to 7");
            Edge.writes(State.some().set(4, 28), register, 3, "root", register, 4, 3);
            Edge.says(37, "- `from`: 0 to 7");
            Edge.writes(State.some().set(register, 28), 4, 5, "root", 4, register, 2);
        }
        Edge.says(37, "Returns its length.");
        Edge.answers(State.some().set(1, 0), 0, "root", 2, 1, 64);
        Edge.answers(State.some().set(1, Check.LONGEST), 600, "root", 2, 1, 1);
        Edge.answers(State.some().set(1, Check.LONGEST), 300, "root", 2, 1, 2);
    }

    private static void promise37Refused() {
        Edge.says(37, NO_REGISTER);
        for (int beyond : BEYOND) {
            Edge.refuses(State.some(), Check.PLACE, "root", beyond, 0, 2);
            Edge.refuses(State.some(), Check.PLACE, "root", 0, beyond, 2);
        }
        Edge.says(37, "Throws `IllegalArgumentException` if a number is out of range");
        for (int by : new int[] {0, 65, -1, -2, Integer.MIN_VALUE, Integer.MAX_VALUE}) {
            for (BigInteger number : new BigInteger[] {big(0), ONE, Check.LONGEST}) {
                Edge.refuses(State.some().set(1, number), Check.ARGUMENT, "root", 2, 1, by);
            }
        }
        Edge.says(37, "Throws `ArithmeticException` if it is below 0");
        for (int by : new int[] {1, 2, 3, 64}) {
            for (BigInteger number : new BigInteger[] {big(-1), big(-8), Check.LEAST}) {
                Edge.refuses(State.some().set(1, number), Check.NUMBER, "root", 2, 1, by);
            }
        }
    }

    private static void promise38() {
        Edge.says(38, "Returns the greatest exponent by which a register is a power of a number.");
        Edge.says(38, "Returns the exponent, 1 at least.");
        int[][] powers = {{2, 1}, {2, 2}, {2, 6}, {2, 64}, {2, 65}, {2, 512}, {2, 576}, {2, 593}, {2, 599}, {3, 1}, {3, 2}, {3, 378},
            {5, 1}, {6, 2}, {6, 232}, {7, 211}, {12, 5}};
        for (int[] power : powers) {
            BigInteger number = big(power[0]).pow(power[1]);
            Edge.tells(State.some().set(1, number), power[1], "perfect", 1);
            Edge.agrees(State.some().set(1, number.add(ONE)), "perfect", 1);
            Edge.agrees(State.some().set(1, number.subtract(ONE)), "perfect", 1);
        }
        Edge.tells(State.some().set(1, Check.LONGEST), 1, "perfect", 1);
        Edge.tells(State.some().set(1, Check.two(300).subtract(ONE).pow(2)), 2, "perfect", 1);
        Edge.tells(State.some().set(1, Check.two(200).subtract(ONE).pow(3)), 3, "perfect", 1);
        for (int register = 0; register < 8; register++) {
            Edge.says(38, REGISTER);
            Edge.tells(State.some().set(register, 1296), 4, "perfect", register);
        }
        Edge.says(38, NO_REGISTER);
        for (int beyond : BEYOND) {
            Edge.refuses(State.some(), Check.PLACE, "perfect", beyond);
        }
        Edge.says(38, "Throws `ArithmeticException` if it is below 2");
        for (BigInteger number : new BigInteger[] {ONE, big(0), big(-1), big(-2), big(-4), big(-8), Check.LEAST}) {
            Edge.refuses(State.some().set(1, number), Check.NUMBER, "perfect", 1);
        }
    }

    private static void promise39() {
        Edge.says(39, "Returns the share of the bits of a register, of as many as its length, that are unlike its sign.");
        Edge.says(39, "Returns bitCount() divided by bitLength(), both converted to float.");
        BigInteger[] numbers = {ONE, big(2), big(-2), big(-3), big(5), big(7), big(-8), Check.two(599), Check.two(599).negate(),
            Check.LONGEST, Check.LEAST, Check.LEAST.add(ONE)};
        float[] shares = {1f, 0.5f, 1f, 0.5f, 2f / 3f, 1f, 1f, 1f / 600f, 1f, 1f, 1f, 599f / 600f};
        for (int i = 0; i < numbers.length; i++) {
            Edge.tells(State.some().set(1, numbers[i]), shares[i], "share", 1);
        }
        for (int register = 0; register < 8; register++) {
            Edge.says(39, REGISTER);
            Edge.tells(State.some().set(register, 9), 0.5f, "share", register);
        }
        Edge.says(39, NO_REGISTER);
        for (int beyond : BEYOND) {
            Edge.refuses(State.some(), Check.PLACE, "share", beyond);
        }
        Edge.says(39, "Throws `ArithmeticException` if its length is 0");
        Edge.refuses(State.some().set(1, 0), Check.NUMBER, "share", 1);
        Edge.refuses(State.some().set(1, -1), Check.NUMBER, "share", 1);
    }

    private static State all(BigInteger number) {
        State state = State.some();
        for (int register = 0; register < 8; register++) {
            state.set(register, number);
        }
        return state;
    }

    private static void promise40() {
        Edge.says(40, "Returns the mean length of the registers.");
        Edge.says(40, "Returns the sum of the lengths divided by 8, both converted to double.");
        Edge.tells(State.fresh(), 0.0, "meanLength");
        Edge.tells(all(big(-1)), 0.0, "meanLength");
        Edge.tells(all(Check.LONGEST), 600.0, "meanLength");
        Edge.tells(all(Check.LEAST), 600.0, "meanLength");
        for (int register = 0; register < 8; register++) {
            Edge.tells(State.fresh().set(register, -2), 0.125, "meanLength");
            Edge.tells(all(Check.LEAST).set(register, 1), 4201 / 8.0, "meanLength");
        }
    }

    /** By numbers without end, cut to a long at the end alone. */
    private static long sum(BigInteger[] registers, int[] text, int[] row, int conditions) {
        BigInteger sum = big(7);
        for (BigInteger number : registers) {
            sum = sum.multiply(big(31)).add(big(number.signum()));
            sum = sum.multiply(big(31)).add(big(number.bitLength()));
            for (int at = 0; at < 10; at++) {
                sum = sum.multiply(big(31)).add(big(number.shiftRight(64 * at).longValue()));
            }
        }
        sum = sum.multiply(big(31)).add(big(text.length));
        for (int sign : text) {
            sum = sum.multiply(big(31)).add(big(sign));
        }
        sum = sum.multiply(big(31)).add(big(row.length));
        for (int eight : row) {
            sum = sum.multiply(big(31)).add(big(eight));
        }
        return sum.multiply(big(31)).add(big(conditions)).longValue();
    }

    private static BigInteger[] registers(BigInteger... first) {
        BigInteger[] all = new BigInteger[8];
        java.util.Arrays.fill(all, BigInteger.ZERO);
        System.arraycopy(first, 0, all, 0, first.length);
        return all;
    }

    private static void promise41() {
        Edge.says(41, "Returns a sum over all, a long that goes round.");
        Edge.says(41, "Returns 7 at first, then 31 times itself plus each of: for each register its signum(), its length, and its 64"
            + " bits from 0 on, from 64 on, and so on to those from 576 on; how many signs the text has, and each one; how many"
            + " bytes the row has, and each one; how many conditions are told.");
        int[] none = {};
        Edge.tells(State.fresh(), sum(registers(), none, none, 0), "checksum");
        BigInteger[] numbers = {ONE, big(-1), Check.LONGEST, Check.LEAST, Check.two(575), Check.two(576), Check.two(599).negate(),
            Check.two(64), big(Long.MIN_VALUE)};
        for (int register = 0; register < 8; register++) {
            for (BigInteger number : numbers) {
                BigInteger[] all = registers();
                all[register] = number;
                Edge.tells(State.fresh().set(register, number), sum(all, none, none, 0), "checksum");
            }
        }
        Edge.tells(State.fresh().text("!"), sum(registers(), new int[] {33}, none, 0), "checksum");
        Edge.tells(State.fresh().text("~!"), sum(registers(), new int[] {126, 33}, none, 0), "checksum");
        Edge.tells(State.fresh().row(0), sum(registers(), none, new int[] {0}, 0), "checksum");
        Edge.tells(State.fresh().row(-128, 127), sum(registers(), none, new int[] {-128, 127}, 0), "checksum");
        Edge.tells(State.fresh().told(0, 1), sum(registers(), none, none, 1), "checksum");
        Edge.tells(State.fresh().told(1, 2).told(5, 9), sum(registers(), none, none, 2), "checksum");
    }

    private static void promise41Full() {
        int[] text = new int[610];
        java.util.Arrays.fill(text, '0');
        text[0] = '-';
        text[1] = '1';
        for (int i = 602; i < 610; i++) {
            text[i] = i % 2 == 0 ? '!' : '~';
        }
        int[] row = new int[80];
        java.util.Arrays.fill(row, -1);
        row[0] = 0;
        row[76] = 1;
        row[78] = 127;
        row[79] = -128;
        BigInteger[] all = registers();
        State full = State.fresh().fullText().fullRow().fullConditions();
        for (int register = 0; register < 8; register++) {
            all[register] = register % 2 == 0 ? Check.LEAST : Check.LONGEST;
            full.set(register, all[register]);
        }
        Edge.tells(full, sum(all, text, row, 6), "checksum");
    }

    private static void promise42() {
        Edge.says(42, "Checks the THEOREM, as far as it is of three registers: with x the one, y the other one, and m the modulus: (5)"
            + " and (6) of x and y, (4) of the amount of x by 2 and 3, (6) by the radixes 2, 10 and 36; if m is above 1: (1) of x"
            + " and y as numbers to raise and as exponents, the amounts of them modulo 4096 as exponents, each also below 0"
            + " where the number is prime to m, and then, for m up to 4096, the order and how many units there are; (2) of x by"
            + " m and y by m and 1; if the amounts of x and y, each with the bit 0 set, have no common divisor: (3) of these.");
        Edge.says(42, "Returns whether all of it is so; always true.");
        BigInteger[] numbers = {big(0), ONE, big(-1), big(2), big(4095), big(4096), big(-4097), Check.LONGEST, Check.LEAST};
        BigInteger[] moduli = {Check.LEAST, big(-1), big(0), ONE, big(2), big(3), big(4096), big(4097), big(1048573), Check.two(599),
            Check.LONGEST};
        for (BigInteger one : numbers) {
            for (BigInteger other : numbers) {
                for (BigInteger modulus : moduli) {
                    Edge.tells(State.some().set(1, one).set(2, other).set(3, modulus), true, "isTrue", 1, 2, 3);
                }
            }
        }
        State full = State.some().fullText().fullRow().fullConditions().set(1, Check.LEAST).set(2, Check.LONGEST);
        Edge.tells(full, true, "isTrue", 1, 2, 2);
        Edge.tells(full, true, "isTrue", 2, 2, 2);
        Edge.tells(full, true, "isTrue", 1, 1, 1);
    }

    private static void promise42Refused() {
        for (int register = 0; register < 8; register++) {
            State state = State.some().set(register, Check.LONGEST);
            Edge.says(42, "- `one`: 0 to 7");
            Edge.tells(state, true, "isTrue", register, 2, 4);
            Edge.says(42, "- `other`: 0 to 7");
            Edge.tells(state, true, "isTrue", 2, register, 4);
            Edge.says(42, "- `modulus`: 0 to 7");
            Edge.tells(state, true, "isTrue", 2, 4, register);
        }
        Edge.says(42, NO_REGISTER);
        for (int beyond : BEYOND) {
            Edge.refuses(State.some(), Check.PLACE, "isTrue", beyond, 0, 0);
            Edge.refuses(State.some(), Check.PLACE, "isTrue", 0, beyond, 0);
            Edge.refuses(State.some(), Check.PLACE, "isTrue", 0, 0, beyond);
        }
    }
}
