import java.math.BigInteger;

/** The edges that promises 9 to 15 name. */
final class ReckoningEdges {
    private static final String NO_REGISTER = "Throws `IndexOutOfBoundsException` if there is no such register";
    private static final String OUT_OF_RANGE = "Throws `IllegalArgumentException` if a number is out of range";
    private static final String NO_SIGN = "Throws `IllegalArgumentException` if there is no such sign";
    private static final String TOO_LONG = "Throws `IllegalStateException` if it is TOO LONG";
    private static final String LENGTH = "Returns its length.";
    private static final int[] BEYOND = {-1, 8, Integer.MIN_VALUE, Integer.MAX_VALUE};
    private static final BigInteger ONE = BigInteger.ONE;

    private ReckoningEdges() {
    }

    static void run() {
        promise9();
        promise9Divisions();
        promise9Common();
        promise9Bits();
        promise9TooLong();
        promise10();
        promise11();
        promise12();
        promise13();
        promise14();
        promise14TooLong();
        promise15();
    }

    private static BigInteger big(long number) {
        return Check.big(number);
    }

    private static State of(BigInteger one, BigInteger other) {
        return State.some().set(1, one).set(2, other);
    }

    private static State of(long one, long other) {
        return of(big(one), big(other));
    }

    private static void does(BigInteger one, char sign, BigInteger other, BigInteger want) {
        Edge.writes(of(one, other), 6, want, "does", sign, 6, 1, 2);
    }

    private static void does(long one, char sign, long other, long want) {
        does(big(one), sign, big(other), big(want));
    }

    private static void tooLong(BigInteger one, char sign, BigInteger other) {
        Edge.refuses(of(one, other), Check.STATE, "does", sign, 6, 1, 2);
    }

    private static void promise9() {
        Edge.says(9, "Reckons with two registers.");
        does(0, '+', 0, 0);
        does(-1, '+', 1, 0);
        does(big(Long.MIN_VALUE), '+', big(Long.MIN_VALUE), Check.two(64).negate());
        does(0, '-', 0, 0);
        does(0, '*', -5, 0);
        does(-1, '*', -1, 1);
        for (int register = 0; register < 8; register++) {
            State state = State.some().set(4, 6).set(register, 20);
            Edge.says(9, "- `to`: 0 to 7");
            Edge.writes(of(7, 8), register, 15, "does", '+', register, 1, 2);
            Edge.says(9, "- `one`: 0 to 7");
            Edge.writes(state, 5, register == 4 ? 0 : 14, "does", '-', 5, register, 4);
            Edge.says(9, "- `other`: 0 to 7");
            Edge.writes(state, 5, register == 4 ? 0 : -14, "does", '-', 5, 4, register);
        }
        Edge.says(9, NO_REGISTER);
        for (int beyond : BEYOND) {
            for (char sign : "+-*/%mgc&|^n<>".toCharArray()) {
                Edge.refuses(of(7, 8), Check.PLACE, "does", sign, beyond, 1, 2);
                Edge.refuses(of(7, 8), Check.PLACE, "does", sign, 1, beyond, 2);
                Edge.refuses(of(7, 8), Check.PLACE, "does", sign, 1, 2, beyond);
            }
        }
        Edge.says(9, NO_SIGN);
        for (char sign : new char[] {'.', ',', ')', 'M', 'G', 'C', 'N', 'a', 'q', '~', '=', '?', ' ', 0, 65535, '+' + 256}) {
            Edge.refuses(of(7, 8), Check.ARGUMENT, "does", sign, 6, 1, 2);
        }
        FaultsEdges.onlySigns("+-*/%mgc&|^n<>", "does", '?', 6, 1, 2);
        Edge.says(9, LENGTH);
        Edge.answers(of(7, 7), 0, "does", '-', 6, 1, 2);
        Edge.answers(of(7, 8), 0, "does", '-', 6, 1, 2);
        Edge.answers(of(7, 9), 1, "does", '-', 6, 1, 2);
        Edge.answers(of(Check.LEAST, big(1)), 600, "does", '*', 6, 1, 2);
    }

    private static void promise9Divisions() {
        Edge.says(9, "- `sign`: '+', '-', '*'; '/' divide(), cut toward 0; '%' remainder(); 'm' mod(); 'g' gcd(); 'c' the least"
            + " common multiple, 0 if one of them is 0; '&' and(), '|' or(), '^' xor(), 'n' andNot(); '<' min(), '>' max()");
        long[][] dues = {{7, 2, 3, 1, 1}, {-7, 2, -3, -1, 1}, {7, -2, -3, 1, 0}, {-7, -2, 3, -1, 0}, {1, 2, 0, 1, 1},
            {-1, 2, 0, -1, 1}, {0, 5, 0, 0, 0}, {0, -5, 0, 0, 0}, {6, 3, 2, 0, 0}, {-6, 3, -2, 0, 0}, {5, 1, 5, 0, 0}, {-5, 1, -5, 0, 0}};
        for (long[] due : dues) {
            does(due[0], '/', due[1], due[2]);
            does(due[0], '%', due[1], due[3]);
            if (due[1] > 0) {
                does(due[0], 'm', due[1], due[4]);
            }
        }
        does(Check.LEAST, '/', ONE, Check.LEAST);
        does(Check.LEAST, '/', Check.LEAST, ONE);
        does(Check.LEAST, '%', big(-1), big(0));
        does(Check.LEAST, '/', Check.LONGEST, big(-1));
        does(Check.LEAST, '%', Check.LONGEST, big(-1));
        does(Check.LEAST, 'm', Check.LONGEST, Check.LONGEST.subtract(ONE));
        does(Check.LONGEST, '/', Check.LEAST, big(0));
        does(Check.LONGEST, '%', Check.LEAST, Check.LONGEST);
        does(Check.LEAST.add(ONE), '/', big(-1), Check.LONGEST);
        Edge.says(9, "Throws `ArithmeticException` for / and % if the other one is 0, for m if it is not above 0");
        for (BigInteger one : new BigInteger[] {big(0), big(7), Check.LONGEST, Check.LEAST}) {
            Edge.refuses(of(one, big(0)), Check.NUMBER, "does", '/', 6, 1, 2);
            Edge.refuses(of(one, big(0)), Check.NUMBER, "does", '%', 6, 1, 2);
            for (BigInteger other : new BigInteger[] {big(0), big(-1), Check.LEAST}) {
                Edge.refuses(of(one, other), Check.NUMBER, "does", 'm', 6, 1, 2);
            }
            does(one, 'm', ONE, big(0));
        }
        Edge.refuses(of(0, 5), Check.NUMBER, "does", '/', 1, 1, 1);
        Edge.refuses(of(0, 5), Check.NUMBER, "does", '%', 1, 1, 1);
        Edge.refuses(of(-5, 5), Check.NUMBER, "does", 'm', 1, 1, 1);
    }

    private static void promise9Common() {
        does(0, 'g', 0, 0);
        does(0, 'g', -5, 5);
        does(-4, 'g', -6, 2);
        does(Check.LEAST, 'g', ONE, ONE);
        does(Check.LEAST, 'g', Check.two(599), Check.two(599));
        does(Check.LONGEST, 'g', big(0), Check.LONGEST);
        does(0, 'c', 0, 0);
        does(0, 'c', 5, 0);
        does(-5, 'c', 0, 0);
        does(-4, 'c', 6, 12);
        does(-4, 'c', -4, 4);
        does(Check.LEAST, 'c', big(0), big(0));
        does(Check.two(599).negate(), 'c', big(-2), Check.two(599));
        does(Check.LONGEST, 'c', Check.LONGEST.negate(), Check.LONGEST);
        does(Check.two(300).add(ONE), 'c', Check.two(299), Check.two(599).add(Check.two(299)));
        tooLong(Check.two(300).add(ONE), 'c', Check.two(300));
    }

    private static void promise9Bits() {
        does(Check.LEAST, '&', big(-1), Check.LEAST);
        does(Check.LEAST, '&', Check.LONGEST, big(0));
        does(Check.LEAST, '|', Check.LONGEST, big(-1));
        does(Check.LEAST, '^', Check.LONGEST, big(-1));
        does(Check.LEAST, '^', big(-1), Check.LONGEST);
        does(Check.LONGEST, 'n', Check.LEAST, Check.LONGEST);
        does(big(-1), 'n', Check.LONGEST, Check.LEAST);
        does(Check.LEAST, 'n', big(-1), big(0));
        does(-1, '&', 0, 0);
        does(-4, '|', 3, -1);
        does(-4, 'n', -8, 4);
        does(Check.LEAST, '<', Check.LONGEST, Check.LEAST);
        does(Check.LEAST, '>', Check.LONGEST, Check.LONGEST);
        does(Check.LONGEST, '<', Check.LEAST, Check.LEAST);
        does(Check.LONGEST, '>', Check.LEAST, Check.LONGEST);
        does(-1, '<', 0, -1);
        does(-1, '>', 0, 0);
        does(4, '<', 4, 4);
        does(4, '>', 4, 4);
    }

    private static void promise9TooLong() {
        Edge.says(9, TOO_LONG);
        does(Check.LONGEST.subtract(ONE), '+', ONE, Check.LONGEST);
        tooLong(Check.LONGEST, '+', ONE);
        tooLong(Check.LONGEST, '+', Check.LONGEST);
        does(Check.LEAST.add(ONE), '+', big(-1), Check.LEAST);
        tooLong(Check.LEAST, '+', big(-1));
        tooLong(Check.LEAST, '+', Check.LEAST);
        does(Check.LONGEST, '+', Check.LEAST, big(-1));
        does(Check.LEAST.add(ONE), '-', ONE, Check.LEAST);
        tooLong(Check.LEAST, '-', ONE);
        tooLong(Check.LONGEST, '-', big(-1));
        does(big(-1), '-', Check.LEAST, Check.LONGEST);
        tooLong(big(0), '-', Check.LEAST);
        tooLong(Check.LONGEST, '-', Check.LEAST);
        does(Check.two(300), '*', Check.two(299), Check.two(599));
        tooLong(Check.two(300), '*', Check.two(300));
        does(Check.two(300), '*', Check.two(300).negate(), Check.LEAST);
        tooLong(Check.two(300).negate(), '*', Check.two(300).negate());
        does(Check.two(300).subtract(ONE), '*', Check.two(300).add(ONE), Check.LONGEST);
        tooLong(Check.LEAST, '*', big(-1));
        does(Check.LEAST, '*', ONE, Check.LEAST);
        tooLong(Check.LEAST, '*', Check.LEAST);
        tooLong(Check.LEAST, '*', Check.LONGEST);
        tooLong(Check.LONGEST, '*', Check.LONGEST);
        tooLong(Check.LEAST, '/', big(-1));
        tooLong(Check.LEAST, 'g', big(0));
        tooLong(big(0), 'g', Check.LEAST);
        tooLong(Check.LEAST, 'g', Check.LEAST);
        tooLong(Check.LEAST, 'c', ONE);
        tooLong(Check.LEAST, 'c', Check.LEAST);
        tooLong(Check.LONGEST, 'c', big(2));
        tooLong(Check.LEAST, 'c', Check.LONGEST);
    }

    private static void promise10() {
        Edge.says(10, "Reckons with one register.");
        Edge.says(10, "- `sign`: '-' negate(), 'a' abs(), '~' not(), 'q' sqrt()");
        BigInteger[] from = {big(0), big(1), big(-1), Check.LONGEST, Check.LEAST.add(ONE), Check.two(598)};
        BigInteger[] amounts = {big(0), big(1), big(1), Check.LONGEST, Check.LONGEST, Check.two(598)};
        for (int i = 0; i < from.length; i++) {
            Edge.writes(State.some().set(1, from[i]), 2, amounts[i], "alone", 'a', 2, 1);
            Edge.writes(State.some().set(1, from[i]), 2, from[i].signum() < 0 ? amounts[i] : amounts[i].negate(), "alone", '-', 2, 1);
        }
        BigInteger[][] nots = {{big(0), big(-1)}, {Check.LONGEST, Check.LEAST}, {big(1), big(-2)}};
        for (BigInteger[] not : nots) {
            Edge.writes(State.some().set(1, not[0]), 1, not[1], "alone", '~', 1, 1);
            Edge.writes(State.some().set(1, not[1]), 1, not[0], "alone", '~', 1, 1);
        }
        BigInteger[][] roots = {{big(0), big(0)}, {big(1), big(1)}, {big(3), big(1)}, {big(4), big(2)}, {big(8), big(2)},
            {Check.LONGEST, Check.two(300).subtract(ONE)}, {Check.two(598), Check.two(299)},
            {Check.two(598).subtract(ONE), Check.two(299).subtract(ONE)}};
        for (BigInteger[] root : roots) {
            Edge.writes(State.some().set(1, root[0]), 2, root[1], "alone", 'q', 2, 1);
        }
        promise10Refused();
    }

    private static void promise10Refused() {
        for (int register = 0; register < 8; register++) {
            Edge.says(10, "- `to`: 0 to 7");
            Edge.writes(State.some().set(4, 9), register, -9, "alone", '-', register, 4);
            Edge.says(10, "- `from`: 0 to 7");
            Edge.writes(State.some().set(register, 9), 4, 3, "alone", 'q', 4, register);
        }
        Edge.says(10, LENGTH);
        Edge.answers(State.some().set(1, 0), 0, "alone", '~', 2, 1);
        Edge.answers(State.some().set(1, Check.LONGEST), 600, "alone", '~', 2, 1);
        Edge.says(10, NO_REGISTER);
        for (int beyond : BEYOND) {
            for (char sign : "-a~q".toCharArray()) {
                Edge.refuses(State.some(), Check.PLACE, "alone", sign, beyond, 0);
                Edge.refuses(State.some(), Check.PLACE, "alone", sign, 0, beyond);
            }
        }
        Edge.says(10, NO_SIGN);
        for (char sign : new char[] {'+', ',', '.', 'A', 'Q', 'p', 'r', 'b', '}', 127, '`', ' ', 0, 65535, '-' + 256}) {
            Edge.refuses(State.some(), Check.ARGUMENT, "alone", sign, 2, 1);
        }
        FaultsEdges.onlySigns("-a~q", "alone", '?', 2, 0);
        Edge.says(10, "Throws `ArithmeticException` for q if it is below 0");
        Edge.refuses(State.some().set(1, -1), Check.NUMBER, "alone", 'q', 2, 1);
        Edge.refuses(State.some().set(1, -4), Check.NUMBER, "alone", 'q', 1, 1);
        Edge.refuses(State.some().set(1, Check.LEAST), Check.NUMBER, "alone", 'q', 2, 1);
        Edge.says(10, TOO_LONG);
        Edge.writes(State.some().set(1, Check.LEAST.add(ONE)), 1, Check.LONGEST, "alone", '-', 1, 1);
        Edge.refuses(State.some().set(1, Check.LEAST), Check.STATE, "alone", '-', 2, 1);
        Edge.writes(State.some().set(1, Check.LEAST.add(ONE)), 1, Check.LONGEST, "alone", 'a', 1, 1);
        Edge.refuses(State.some().set(1, Check.LEAST), Check.STATE, "alone", 'a', 1, 1);
    }

    private static void shifts(BigInteger number, int by, BigInteger want) {
        Edge.writes(State.some().set(5, number), 2, want, "shifts", 2, 5, by);
    }

    private static void promise11() {
        Edge.says(11, "Shifts a register.");
        shifts(big(5), 0, big(5));
        shifts(big(5), 1, big(10));
        shifts(big(-5), -1, big(-3));
        shifts(big(-1), -1, big(-1));
        shifts(Check.LEAST, 0, Check.LEAST);
        Edge.says(11, "- `by`: -700 to 700; to the left, below 0 to the right");
        shifts(big(0), 700, big(0));
        shifts(big(0), -700, big(0));
        shifts(Check.LONGEST, -700, big(0));
        shifts(Check.LONGEST, -600, big(0));
        shifts(Check.LONGEST, -599, big(1));
        shifts(Check.LEAST, -700, big(-1));
        shifts(Check.LEAST, -600, big(-1));
        shifts(Check.LEAST, -599, big(-2));
        for (int register = 0; register < 8; register++) {
            Edge.says(11, "- `to`: 0 to 7");
            Edge.writes(State.some().set(4, 9), register, 72, "shifts", register, 4, 3);
            Edge.says(11, "- `from`: 0 to 7");
            Edge.writes(State.some().set(register, -9), 4, -2, "shifts", 4, register, -3);
        }
        Edge.says(11, LENGTH);
        Edge.answers(State.some().set(5, -1), 600, "shifts", 2, 5, 600);
        Edge.answers(State.some().set(5, 1), 600, "shifts", 2, 5, 599);
        Edge.answers(State.some().set(5, -8), 0, "shifts", 2, 5, -3);
        Edge.says(11, NO_REGISTER);
        for (int beyond : BEYOND) {
            Edge.refuses(State.some(), Check.PLACE, "shifts", beyond, 0, 1);
            Edge.refuses(State.some(), Check.PLACE, "shifts", 0, beyond, -1);
        }
        Edge.says(11, OUT_OF_RANGE);
        for (int by : new int[] {-701, 701, Integer.MIN_VALUE, Integer.MAX_VALUE}) {
            Edge.refuses(State.some().set(5, 0), Check.ARGUMENT, "shifts", 2, 5, by);
            Edge.refuses(State.some().set(5, 1), Check.ARGUMENT, "shifts", 2, 5, by);
        }
        promise11TooLong();
    }

    private static void promise11TooLong() {
        Edge.says(11, TOO_LONG);
        shifts(big(1), 599, Check.two(599));
        Edge.refuses(State.some().set(5, 1), Check.STATE, "shifts", 2, 5, 600);
        Edge.refuses(State.some().set(5, 1), Check.STATE, "shifts", 2, 5, 700);
        shifts(big(-1), 600, Check.LEAST);
        Edge.refuses(State.some().set(5, -1), Check.STATE, "shifts", 2, 5, 601);
        Edge.refuses(State.some().set(5, -1), Check.STATE, "shifts", 2, 5, 700);
        shifts(big(-2), 599, Check.LEAST);
        Edge.refuses(State.some().set(5, -2), Check.STATE, "shifts", 2, 5, 600);
        shifts(big(3), 598, Check.two(599).add(Check.two(598)));
        Edge.refuses(State.some().set(5, 3), Check.STATE, "shifts", 2, 5, 599);
        for (BigInteger longest : new BigInteger[] {Check.LONGEST, Check.LEAST, Check.two(599)}) {
            shifts(longest, 0, longest);
            Edge.refuses(State.some().set(5, longest), Check.STATE, "shifts", 5, 5, 1);
            Edge.refuses(State.some().set(5, longest), Check.STATE, "shifts", 5, 5, 700);
        }
    }

    private static void promise12() {
        Edge.says(12, "Tells a bit of a register.");
        Edge.says(12, "Returns whether it is 1.");
        Edge.says(12, "- `at`: 0 to 700");
        int[] places = {0, 1, 598, 599, 600, 601, 700};
        String[] dues = {"0000000", "1111111", "1111000", "0000111", "0001000", "1111111"};
        BigInteger[] numbers = {big(0), big(-1), Check.LONGEST, Check.LEAST, Check.two(599), big(-1)};
        for (int i = 0; i < numbers.length; i++) {
            for (int j = 0; j < places.length; j++) {
                Edge.tells(State.some().set(6, numbers[i]), dues[i].charAt(j) == '1', "bit", 6, places[j]);
            }
        }
        for (int register = 0; register < 8; register++) {
            Edge.says(12, "- `register`: 0 to 7");
            Edge.tells(State.some().set(register, 4), true, "bit", register, 2);
            Edge.tells(State.some().set(register, 4), false, "bit", register, 1);
        }
        Edge.says(12, NO_REGISTER);
        for (int beyond : BEYOND) {
            Edge.refuses(State.some(), Check.PLACE, "bit", beyond, 0);
        }
        Edge.says(12, OUT_OF_RANGE);
        for (int at : new int[] {-1, 701, Integer.MIN_VALUE, Integer.MAX_VALUE}) {
            Edge.refuses(State.some(), Check.ARGUMENT, "bit", 0, at);
        }
    }

    private static void setBit(BigInteger number, int at, char how, BigInteger want) {
        Edge.writes(State.some().set(6, number), 6, want, "setBit", 6, at, how);
    }

    private static void promise13() {
        Edge.says(13, "Sets a bit of a register.");
        Edge.says(13, "- `how`: '1' it is 1 then, '0' it is 0 then, 'f' it is the other one then");
        Edge.says(13, "- `at`: 0 to 599");
        BigInteger top = Check.two(599);
        for (int at : new int[] {0, 599}) {
            BigInteger bit = Check.two(at);
            setBit(big(0), at, '1', bit);
            setBit(big(0), at, '0', big(0));
            setBit(big(0), at, 'f', bit);
            setBit(bit, at, '1', bit);
            setBit(bit, at, '0', big(0));
            setBit(bit, at, 'f', big(0));
            setBit(big(-1), at, '1', big(-1));
            setBit(big(-1), at, '0', big(-1).subtract(bit));
            setBit(big(-1), at, 'f', big(-1).subtract(bit));
        }
        setBit(Check.LONGEST, 599, '0', top.subtract(ONE));
        setBit(Check.LONGEST, 599, '1', Check.LONGEST);
        setBit(Check.LEAST, 599, '1', top.negate());
        setBit(Check.LEAST, 599, '0', Check.LEAST);
        setBit(top.negate(), 599, 'f', Check.LEAST);
        setBit(Check.LEAST, 0, 'f', Check.LEAST.add(ONE));
        for (int register = 0; register < 8; register++) {
            Edge.says(13, "- `register`: 0 to 7");
            Edge.writes(State.some().set(register, 5), register, 13, "setBit", register, 3, '1');
        }
        Edge.says(13, LENGTH);
        Edge.answers(State.some().set(6, 0), 600, "setBit", 6, 599, '1');
        Edge.answers(State.some().set(6, -2), 0, "setBit", 6, 0, '1');
        Edge.answers(State.some().set(6, 1), 0, "setBit", 6, 0, '0');
        Edge.says(13, NO_REGISTER);
        for (int beyond : BEYOND) {
            Edge.refuses(State.some(), Check.PLACE, "setBit", beyond, 0, '1');
        }
        Edge.says(13, "Throws `IllegalArgumentException` if a number is out of range, or there is no such how");
        for (char how : "10f".toCharArray()) {
            for (int at : new int[] {-1, 600, 601, 700, Integer.MIN_VALUE, Integer.MAX_VALUE}) {
                Edge.refuses(State.some(), Check.ARGUMENT, "setBit", 0, at, how);
            }
        }
        for (char how : new char[] {'/', '2', 'e', 'g', 'F', 0, 1, ' ', 65535, '1' + 256}) {
            Edge.refuses(State.some(), Check.ARGUMENT, "setBit", 0, 3, how);
            Edge.refuses(State.some(), Check.ARGUMENT, "setBit", 0, 600, how);
        }
        FaultsEdges.onlySigns("10f", "setBit", 0, 0, '?');
    }

    private static void power(BigInteger number, int exponent, BigInteger want) {
        Edge.writes(State.some().set(6, number), 3, want, "power", 3, 6, exponent);
    }

    private static void promise14() {
        Edge.says(14, "Raises a register.");
        power(big(2), 10, big(1024));
        power(big(-2), 3, big(-8));
        Edge.says(14, "- `exponent`: 0 to 64; by 0 it is 1");
        for (BigInteger number : new BigInteger[] {big(0), big(1), big(-1), Check.LONGEST, Check.LEAST}) {
            power(number, 0, ONE);
            power(number, 1, number);
        }
        for (int exponent : new int[] {2, 63, 64}) {
            power(big(0), exponent, big(0));
            power(big(1), exponent, big(1));
            power(big(-1), exponent, big(exponent == 63 ? -1 : 1));
            power(big(2), exponent, Check.two(exponent));
        }
        for (int register = 0; register < 8; register++) {
            Edge.says(14, "- `to`: 0 to 7");
            Edge.writes(State.some().set(4, 9), register, 81, "power", register, 4, 2);
            Edge.says(14, "- `from`: 0 to 7");
            Edge.writes(State.some().set(register, -9), 4, -729, "power", 4, register, 3);
        }
        Edge.says(14, LENGTH);
        Edge.answers(State.some().set(6, -1), 0, "power", 3, 6, 63);
        Edge.answers(State.some().set(6, -1), 1, "power", 3, 6, 64);
        Edge.says(14, NO_REGISTER);
        for (int beyond : BEYOND) {
            Edge.refuses(State.some(), Check.PLACE, "power", beyond, 0, 0);
            Edge.refuses(State.some(), Check.PLACE, "power", 0, beyond, 1);
        }
        Edge.says(14, OUT_OF_RANGE);
        for (int exponent : new int[] {-1, 65, Integer.MIN_VALUE, Integer.MAX_VALUE}) {
            for (BigInteger number : new BigInteger[] {big(0), big(1), Check.LEAST}) {
                Edge.refuses(State.some().set(6, number), Check.ARGUMENT, "power", 3, 6, exponent);
            }
        }
    }

    private static void promise14TooLong() {
        Edge.says(14, TOO_LONG);
        for (int exponent = 2; exponent <= 64; exponent++) {
            BigInteger last = Reference.rootOf(Check.LONGEST, exponent);
            power(last, exponent, last.pow(exponent));
            Edge.refuses(State.some().set(6, last.add(ONE)), Check.STATE, "power", 3, 6, exponent);
            BigInteger least = last.negate();
            // 2 to the power 600 is too long, less 2 to the power 600 is not.
            boolean just = exponent % 2 == 1 && 600 % exponent == 0;
            if (just) {
                least = Check.two(600 / exponent).negate();
                power(least, exponent, Check.LEAST);
            }
            power(least, exponent, least.pow(exponent));
            Edge.refuses(State.some().set(6, least.subtract(ONE)), Check.STATE, "power", 3, 6, exponent);
        }
        for (BigInteger number : new BigInteger[] {Check.LONGEST, Check.LEAST, Check.two(300), Check.two(300).negate()}) {
            Edge.refuses(State.some().set(6, number), Check.STATE, "power", 6, 6, 2);
            Edge.refuses(State.some().set(6, number), Check.STATE, "power", 6, 6, 64);
        }
    }

    private static void divides(BigInteger one, BigInteger other, BigInteger quotient, BigInteger rest) {
        Edge.writes(of(one, other), 5, quotient, "divides", 5, 6, 1, 2);
        Residueworks x = of(one, other).program();
        x.divides(5, 6, 1, 2);
        Edge.same(one + " leaves by " + other, rest, Check.get(x, 6));
    }

    private static void promise15() {
        Edge.says(15, "Divides with a remainder, by divideAndRemainder().");
        divides(big(7), big(-2), big(-3), big(1));
        divides(big(-7), big(2), big(-3), big(-1));
        divides(big(0), big(-2), big(0), big(0));
        divides(Check.LEAST, ONE, Check.LEAST, big(0));
        divides(Check.LEAST, Check.LONGEST, big(-1), big(-1));
        divides(Check.LONGEST, Check.LEAST, big(0), Check.LONGEST);
        divides(Check.LEAST.add(ONE), big(-1), Check.LONGEST, big(0));
        for (int register = 0; register < 8; register++) {
            Edge.says(15, "- `quotient`: 0 to 7");
            Edge.writes(of(17, 5), register, 3, "divides", register, (register + 1) % 8, 1, 2);
            Edge.says(15, "- `rest`: 0 to 7, another one");
            Edge.writes(of(17, 5), (register + 3) % 8, 3, "divides", (register + 3) % 8, register, 1, 2);
            Edge.says(15, "- `one`: 0 to 7");
            Edge.writes(State.some().set(2, -5).set(register, 17), 5, register == 2 ? 1 : -3, "divides", 5, 6, register, 2);
            Edge.says(15, "- `other`: 0 to 7");
            Edge.writes(State.some().set(1, 17).set(register, -5), 5, register == 1 ? 1 : -3, "divides", 5, 6, 1, register);
        }
        Edge.says(15, "Returns the length of the quotient.");
        Edge.answers(of(17, 5), 2, "divides", 5, 6, 1, 2);
        Edge.answers(of(17, -17), 0, "divides", 5, 6, 1, 2);
        Edge.answers(of(Check.LONGEST, Check.LEAST), 0, "divides", 5, 6, 1, 2);
        Edge.answers(of(Check.LEAST, ONE), 600, "divides", 5, 6, 1, 2);
        promise15Refused();
    }

    private static void promise15Refused() {
        Edge.says(15, NO_REGISTER);
        for (int beyond : BEYOND) {
            Edge.refuses(of(17, 5), Check.PLACE, "divides", beyond, 6, 1, 2);
            Edge.refuses(of(17, 5), Check.PLACE, "divides", 5, beyond, 1, 2);
            Edge.refuses(of(17, 5), Check.PLACE, "divides", 5, 6, beyond, 2);
            Edge.refuses(of(17, 5), Check.PLACE, "divides", 5, 6, 1, beyond);
        }
        Edge.says(15, "Throws `IllegalArgumentException` if quotient and rest are the same");
        for (int register = 0; register < 8; register++) {
            Edge.refuses(of(17, 5), Check.ARGUMENT, "divides", register, register, 1, 2);
            Edge.refuses(of(17, 5), Check.ARGUMENT, "divides", register, register, register, register);
        }
        Edge.says(15, "Throws `ArithmeticException` if the other one is 0");
        for (BigInteger one : new BigInteger[] {big(0), big(7), Check.LONGEST, Check.LEAST}) {
            Edge.refuses(of(one, big(0)), Check.NUMBER, "divides", 5, 6, 1, 2);
        }
        Edge.refuses(of(0, 0), Check.NUMBER, "divides", 1, 2, 1, 1);
        Edge.says(15, TOO_LONG);
        Edge.refuses(of(Check.LEAST, big(-1)), Check.STATE, "divides", 5, 6, 1, 2);
        Edge.refuses(of(Check.LEAST, big(-1)), Check.STATE, "divides", 1, 2, 1, 2);
        Edge.refuses(of(Check.LEAST, big(-1)), Check.STATE, "divides", 2, 1, 1, 2);
    }
}
