import java.math.BigInteger;

/** The edges that promises 1 to 8 name. */
final class RegistersEdges {
    private static final String REGISTER = "- `register`: 0 to 7";
    private static final String NO_REGISTER = "Throws `IndexOutOfBoundsException` if there is no such register";
    private static final String OUT_OF_RANGE = "Throws `IllegalArgumentException` if a number is out of range";
    private static final String LENGTH = "Returns its length.";
    private static final BigInteger ONE = BigInteger.ONE;
    /** A longest number, times 2 to the power 64 and something less than that, may still have 600 bits. */
    private static final BigInteger LAST_LONGER = Check.two(536).subtract(ONE);
    private static final BigInteger LEAST_LONGER = Check.two(536).negate();

    private RegistersEdges() {
    }

    static void run() {
        promise1();
        promise2();
        promise3();
        promise3TooLong();
        promise4();
        promise5();
        promise6();
        promise7();
        promise8();
    }

    /** A call whose first argument is a register: the least, the greatest, and one beyond each. */
    private static void registers(int promise, String name, Object... more) {
        Edge.says(promise, REGISTER);
        for (int register = 0; register < 8; register++) {
            Edge.agrees(State.some().set(register, 6), name, with(register, more));
        }
        Edge.says(promise, NO_REGISTER);
        for (int register : new int[] {-1, 8, Integer.MIN_VALUE, Integer.MAX_VALUE}) {
            Edge.refuses(State.some(), Check.PLACE, name, with(register, more));
        }
    }

    private static Object[] with(int register, Object... more) {
        Object[] all = new Object[more.length + 1];
        all[0] = register;
        System.arraycopy(more, 0, all, 1, more.length);
        return all;
    }

    private static void promise1() {
        Edge.says(1, "All registers are 0; text and row are empty; no condition is told.");
        State fresh = State.fresh();
        for (int register = 0; register < 8; register++) {
            Edge.tells(fresh, 0, "tells", register, 's');
            Edge.tells(fresh, 0, "tells", register, 'l');
            Edge.tells(fresh, 0, "tells", register, 'c');
            Edge.tells(fresh, -1, "tells", register, 't');
            Edge.tells(fresh, 0, "exact", register);
            Edge.tells(fresh, false, "bit", register, 0);
        }
        Edge.refuses(fresh, Check.PLACE, "signAt", 0);
        Edge.refuses(fresh, Check.PLACE, "byteAt", 0);
        Edge.tells(fresh, -1, "read", 0, 10);
        Edge.tells(fresh, -1, "fromRow", 0);
        Edge.answers(fresh, true, "solve", 0, 1);
        Edge.answers(fresh, 1, "type", '!');
        Edge.answers(fresh, 1, "push", 0);
        Edge.answers(fresh.set(1, 1), 1, "condition", 0, 1);
        Residueworks first = State.some().program();
        long before = first.checksum();
        Residueworks second = new Residueworks();
        second.put(1, 9);
        second.type('b');
        second.push(3);
        second.condition(0, 1);
        Edge.same("another object changes nothing", before, first.checksum());
        Edge.same("a third one is new again", 0, new Residueworks().tells(1, 'l'));
    }

    private static void promise2() {
        Edge.says(2, "Puts a number into a register.");
        Edge.writes(State.some().set(2, Check.LEAST), 2, 0, "put", 2, 0);
        Edge.writes(State.some().set(2, Check.LONGEST), 2, -1, "put", 2, -1);
        registers(2, "put", 6);
        Edge.says(2, "- `number`: any number");
        long[] numbers = {0, 1, -1, Integer.MAX_VALUE, Integer.MIN_VALUE, Integer.MAX_VALUE + 1L, Integer.MIN_VALUE - 1L,
            Long.MAX_VALUE, Long.MIN_VALUE, Long.MIN_VALUE + 1};
        for (long number : numbers) {
            Edge.writes(State.some(), 7, number, "put", 7, number);
        }
        Edge.says(2, LENGTH);
        long[] ofLengths = {0, -1, 1, -2, 2, -3, Long.MAX_VALUE, Long.MIN_VALUE};
        int[] lengths = {0, 0, 1, 1, 2, 2, 63, 63};
        for (int i = 0; i < lengths.length; i++) {
            Edge.answers(State.some(), lengths[i], "put", 0, ofLengths[i]);
        }
    }

    private static void promise3() {
        Edge.says(3, "Makes a register itself times 2 to the power 64, and low, taken without a sign.");
        BigInteger word = Check.two(64);
        Edge.writes(State.some().set(1, 0), 1, 0, "longer", 1, 0);
        Edge.writes(State.some().set(1, 1), 1, word, "longer", 1, 0);
        Edge.writes(State.some().set(1, -1), 1, word.negate(), "longer", 1, 0);
        Edge.writes(State.some().set(1, -1), 1, word.negate().add(ONE), "longer", 1, 1);
        Edge.writes(State.some().set(1, -2), 1, word.negate().subtract(ONE), "longer", 1, -1);
        registers(3, "longer", 6);
        Edge.says(3, "- `low`: any number");
        Edge.writes(State.some().set(1, 0), 1, word.subtract(ONE), "longer", 1, -1);
        Edge.writes(State.some().set(1, 0), 1, Check.two(63), "longer", 1, Long.MIN_VALUE);
        Edge.writes(State.some().set(1, 0), 1, Check.two(63).subtract(ONE), "longer", 1, Long.MAX_VALUE);
        Edge.says(3, LENGTH);
        Edge.answers(State.some().set(1, -1), 0, "longer", 1, -1);
        Edge.answers(State.some().set(1, -1), 1, "longer", 1, -2);
        Edge.answers(State.some().set(1, -1), 64, "longer", 1, 0);
        Edge.answers(State.some().set(1, 1), 65, "longer", 1, 0);
    }

    private static void promise3TooLong() {
        Edge.says(3, "Throws `IllegalStateException` if it is TOO LONG");
        Edge.writes(State.some().set(6, LAST_LONGER), 6, Check.LONGEST, "longer", 6, -1);
        Edge.writes(State.some().set(6, LAST_LONGER), 6, LAST_LONGER.shiftLeft(64), "longer", 6, 0);
        Edge.refuses(State.some().set(6, LAST_LONGER.add(ONE)), Check.STATE, "longer", 6, 0);
        Edge.writes(State.some().set(6, LEAST_LONGER), 6, Check.LEAST, "longer", 6, 0);
        Edge.writes(State.some().set(6, LEAST_LONGER), 6, Check.LEAST.add(Check.two(64)).subtract(ONE), "longer", 6, -1);
        Edge.refuses(State.some().set(6, LEAST_LONGER.subtract(ONE)), Check.STATE, "longer", 6, -1);
        Edge.refuses(State.some().set(6, LEAST_LONGER.subtract(ONE)), Check.STATE, "longer", 6, 0);
        Edge.refuses(State.some().set(6, Check.LONGEST), Check.STATE, "longer", 6, -1);
        Edge.refuses(State.some().set(6, Check.LEAST), Check.STATE, "longer", 6, 0);
    }

    private static void promise4() {
        Edge.says(4, "Copies a register.");
        Edge.writes(State.some().set(1, Check.LONGEST).set(2, 0), 1, 0, "copy", 1, 2);
        Edge.writes(State.some().set(1, 0).set(2, Check.LEAST), 1, Check.LEAST, "copy", 1, 2);
        Edge.tells(State.some().set(1, Check.LONGEST), 600, "copy", 1, 1);
        Residueworks x = Check.with(Check.LONGEST);
        x.copy(2, 1);
        x.put(1, 3);
        Edge.same("the copy stays", Check.LONGEST, Check.get(x, 2));
        for (int register = 0; register < 8; register++) {
            Edge.says(4, "- `to`: 0 to 7");
            Edge.writes(State.some().set(4, 77), register, 77, "copy", register, 4);
            Edge.says(4, "- `from`: 0 to 7");
            Edge.writes(State.some().set(register, 77), 3, 77, "copy", 3, register);
        }
        Edge.says(4, LENGTH);
        Edge.answers(State.some().set(1, -1), 0, "copy", 2, 1);
        Edge.answers(State.some().set(1, Check.LEAST), 600, "copy", 2, 1);
        Edge.says(4, NO_REGISTER);
        for (int register : new int[] {-1, 8, Integer.MIN_VALUE, Integer.MAX_VALUE}) {
            Edge.refuses(State.some(), Check.PLACE, "copy", register, 0);
            Edge.refuses(State.some(), Check.PLACE, "copy", 0, register);
            Edge.refuses(State.some(), Check.PLACE, "copy", register, register);
        }
    }

    private static void part(BigInteger number, int at, long want) {
        Edge.tells(State.some().set(5, number), want, "part", 5, at);
    }

    private static void promise5() {
        Edge.says(5, "Returns 64 bits of a register, by two's complement without end.");
        part(BigInteger.ZERO, 0, 0);
        part(Check.big(-1), 0, -1);
        part(Check.big(-1), 700, -1);
        part(Check.big(Long.MIN_VALUE), 0, Long.MIN_VALUE);
        part(Check.big(Long.MIN_VALUE), 63, -1);
        part(Check.LONGEST, 536, -1);
        part(Check.LEAST, 0, 0);
        part(Check.LEAST, 536, 0);
        Edge.says(5, "Returns the bits at to at and 63, the bit at being the lowest one.");
        part(Check.LONGEST, 537, Long.MAX_VALUE);
        part(Check.LONGEST, 599, 1);
        part(Check.LONGEST, 600, 0);
        part(Check.LEAST, 537, Long.MIN_VALUE);
        part(Check.LEAST, 599, -2);
        part(Check.LEAST, 600, -1);
        part(Check.two(63), 0, Long.MIN_VALUE);
        part(Check.two(64), 0, 0);
        part(Check.two(64), 1, Long.MIN_VALUE);
        part(Check.two(64), 64, 1);
        Edge.says(5, "- `at`: the lowest one of them, 0 to 700");
        part(Check.big(6), 0, 6);
        part(Check.LONGEST, 700, 0);
        part(Check.LEAST, 700, -1);
        registers(5, "part", 1);
        Edge.says(5, OUT_OF_RANGE);
        for (int at : new int[] {-1, 701, Integer.MIN_VALUE, Integer.MAX_VALUE}) {
            Edge.refuses(State.some(), Check.ARGUMENT, "part", 0, at);
        }
    }

    private static void promise6() {
        Edge.says(6, "Tells of a register.");
        Edge.says(6, "- `what`: 's' signum(), 'l' bitLength(), 'c' bitCount(), the bits that are unlike the sign, 't'"
            + " getLowestSetBit(), -1 for 0");
        Edge.says(6, "Returns the number.");
        BigInteger[] numbers = {BigInteger.ZERO, ONE, Check.big(-1), Check.big(-2), Check.two(599), Check.two(599).negate(),
            Check.LONGEST, Check.LEAST, Check.LEAST.add(ONE)};
        int[][] dues = {{0, 0, 0, -1}, {1, 1, 1, 0}, {-1, 0, 0, 0}, {-1, 1, 1, 1}, {1, 600, 1, 599}, {-1, 599, 599, 599},
            {1, 600, 600, 0}, {-1, 600, 600, 600}, {-1, 600, 599, 0}};
        for (int i = 0; i < numbers.length; i++) {
            for (int j = 0; j < 4; j++) {
                Edge.tells(State.some().set(0, numbers[i]), dues[i][j], "tells", 0, "slct".charAt(j));
            }
        }
        registers(6, "tells", 'c');
        Edge.says(6, "Throws `IllegalArgumentException` if there is nothing such");
        for (char what : new char[] {'r', 'u', 'k', 'm', 'b', 'd', 'S', 'L', 'C', 'T', ' ', 0, 65535, 's' + 256}) {
            Edge.refuses(State.some(), Check.ARGUMENT, "tells", 0, what);
        }
        FaultsEdges.onlySigns("slct", "tells", 0, '?');
    }

    private static void promise7() {
        Edge.says(7, "Returns a register as an int.");
        Edge.says(7, "Returns the number.");
        for (int number : new int[] {0, -1, 1, Integer.MAX_VALUE, Integer.MIN_VALUE}) {
            Edge.tells(State.some().set(3, number), number, "exact", 3);
        }
        registers(7, "exact");
        Edge.says(7, "Throws `ArithmeticException` if it is no int");
        BigInteger[] numbers = {Check.two(31), Check.two(31).negate().subtract(ONE), Check.two(32), Check.two(32).add(ONE),
            Check.two(64), Check.two(64).negate(), Check.LONGEST, Check.LEAST};
        for (BigInteger number : numbers) {
            Edge.refuses(State.some().set(3, number), Check.NUMBER, "exact", 3);
        }
    }

    private static void promise8() {
        Edge.says(8, "Compares two registers.");
        Edge.says(8, "Returns -1 if the one is less, 0 if they are alike, 1 if it is more.");
        BigInteger[] rising = {Check.LEAST, Check.LEAST.add(ONE), Check.big(-2), Check.big(-1), BigInteger.ZERO, ONE,
            Check.LONGEST.subtract(ONE), Check.LONGEST};
        for (int i = 0; i < rising.length; i++) {
            for (int j = 0; j < rising.length; j++) {
                Edge.tells(State.some().set(2, rising[i]).set(5, rising[j]), Integer.compare(i, j), "compare", 2, 5);
            }
            Edge.tells(State.some().set(2, rising[i]), 0, "compare", 2, 2);
        }
        for (int register = 0; register < 8; register++) {
            Edge.says(8, "- `one`: 0 to 7");
            Edge.tells(State.some().set(register, Check.LONGEST), register == 4 ? 0 : 1, "compare", register, 4);
            Edge.says(8, "- `other`: 0 to 7");
            Edge.tells(State.some().set(register, Check.LONGEST), register == 4 ? 0 : -1, "compare", 4, register);
        }
        Edge.says(8, NO_REGISTER);
        for (int register : new int[] {-1, 8, Integer.MIN_VALUE, Integer.MAX_VALUE}) {
            Edge.refuses(State.some(), Check.PLACE, "compare", register, 0);
            Edge.refuses(State.some(), Check.PLACE, "compare", 0, register);
            Edge.refuses(State.some(), Check.PLACE, "compare", register, register);
        }
    }
}
