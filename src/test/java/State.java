import java.math.BigInteger;
import java.util.ArrayList;
import java.util.Arrays;
import java.util.List;

/**
 * What an object is to have: registers, text, row, conditions. As many objects as are wanted are
 * made of one state, of the program and of the reference, each by the same few calls.
 */
final class State {
    /** So many calls are left of 512 to read an object that a state has made. */
    private static final int MOST_CALLS = 330;
    /** Calls with long numbers, so that what an object reckons with inside is not as it was at first. */
    private static final Object[][] USE = {
        {"put", 0, -1}, {"shifts", 0, 0, 600}, {"alone", '~', 1, 0}, {"put", 2, -1}, {"setBit", 2, 299, 'f'}, {"alone", '~', 2, 2},
        {"put", 3, 1}, {"shifts", 3, 3, 299}, {"setBit", 3, 0, '1'}, {"put", 4, 5}, {"longer", 4, -9}, {"longer", 4, 77},
        {"does", 'c', 7, 3, 4}, {"does", 'g', 7, 1, 3}, {"does", '*', 7, 3, 2}, {"does", '/', 7, 1, 4}, {"does", 'm', 6, 0, 3},
        {"does", '+', 7, 0, 1}, {"does", '-', 7, 2, 1}, {"does", '^', 7, 0, 2}, {"divides", 5, 6, 0, 4}, {"root", 7, 1, 3},
        {"perfect", 4}, {"power", 7, 3, 2}, {"modPower", 7, 0, 4, 1}, {"inverse", 7, 2, 1}, {"symbol", 4, 1},
        {"condition", 1, 3}, {"condition", 4, 2}, {"solve", 6, 7}, {"forget"}, {"isTrue", 0, 4, 1}, {"write", 0, 2}, {"read", 7, 2},
        {"toRow", 0}, {"fromRow", 7}, {"erase"}, {"clearRow"}, {"alone", 'q', 7, 1}};

    private final BigInteger[] registers = new BigInteger[8];
    private final List<BigInteger> conditions = new ArrayList<>();
    private BigInteger written;
    private int radix;
    private String typed = "";
    private BigInteger rowed;
    private int[] pushed = {};

    private State() {
        Arrays.fill(registers, BigInteger.ZERO);
    }

    static State fresh() {
        return new State();
    }

    /** Something everywhere, so that it is seen if a call changes what it should leave. */
    static State some() {
        State state = new State();
        long[] numbers = {41, -7, 12345678901L, -3, 97, 1048573, -1048576, 12};
        for (int i = 0; i < numbers.length; i++) {
            state.set(i, numbers[i]);
        }
        state.set(3, Check.some(130, 3).negate());
        return state.text("1a~").row(-128, 5, 127).told(2, 3).told(3, 5);
    }

    State set(int register, BigInteger number) {
        registers[register] = number;
        return this;
    }

    State set(int register, long number) {
        return set(register, Check.big(number));
    }

    State text(String signs) {
        written = null;
        typed = signs;
        return this;
    }

    /** A text too long to be typed: a number that is written, and signs typed behind it. */
    State text(BigInteger number, int by, String more) {
        written = number;
        radix = by;
        typed = more;
        return this;
    }

    /** 610 signs, no number by any radix. */
    State fullText() {
        return text(Check.LEAST, 2, "!~!~!~!~");
    }

    State row(int... bytes) {
        rowed = null;
        pushed = bytes;
        return this;
    }

    /** A row too long to be pushed: the bytes of a number, and bytes pushed behind it. */
    State row(BigInteger number, int... more) {
        rowed = number;
        pushed = more;
        return this;
    }

    /** 80 bytes: those of the longest number, and four more. */
    State fullRow() {
        return row(Check.LONGEST, 1, -1, 127, -128);
    }

    State told(BigInteger rest, BigInteger modulus) {
        conditions.add(rest);
        conditions.add(modulus);
        return this;
    }

    State told(long rest, long modulus) {
        return told(Check.big(rest), Check.big(modulus));
    }

    State untold() {
        conditions.clear();
        return this;
    }

    /** Six conditions, all of them kept by 23. */
    State fullConditions() {
        return untold().told(2, 3).told(3, 5).told(2, 7).told(23, 105).told(-1, 2).told(0, 1);
    }

    private static void put(List<Object[]> calls, int register, BigInteger number) {
        int words = number.bitLength() / 64;
        calls.add(new Object[] {"put", register, number.shiftRight(64 * words).longValue()});
        for (int i = words - 1; i >= 0; i--) {
            calls.add(new Object[] {"longer", register, number.shiftRight(64 * i).longValue()});
        }
    }

    private List<Object[]> calls() {
        List<Object[]> calls = new ArrayList<>();
        for (int i = 0; i < conditions.size(); i += 2) {
            put(calls, 0, conditions.get(i));
            put(calls, 1, conditions.get(i + 1));
            calls.add(new Object[] {"condition", 0, 1});
        }
        if (written != null) {
            put(calls, 0, written);
            calls.add(new Object[] {"write", 0, radix});
        }
        for (char sign : typed.toCharArray()) {
            calls.add(new Object[] {"type", sign});
        }
        if (rowed != null) {
            put(calls, 0, rowed);
            calls.add(new Object[] {"toRow", 0});
        }
        for (int eight : pushed) {
            calls.add(new Object[] {"push", eight});
        }
        for (int i = 0; i < registers.length; i++) {
            if (registers[i].signum() != 0 || !calls.isEmpty()) {
                put(calls, i, registers[i]);
            }
        }
        return calls;
    }

    private static <T> T called(T object, List<Object[]> calls) {
        for (Object[] call : calls) {
            Object[] arguments = Arrays.copyOfRange(call, 1, call.length);
            String answer = Calls.answer(object, (String) call[0], arguments);
            if (answer.startsWith("throws")) {
                Check.same(Calls.told((String) call[0], arguments) + " to make a state", "", answer);
            }
        }
        return object;
    }

    private <T> T made(T object) {
        List<Object[]> calls = calls();
        if (calls.size() > MOST_CALLS) {
            Check.same("a state is made by at most " + MOST_CALLS + " calls", true, false);
        }
        return called(object, calls);
    }

    Residueworks program() {
        return made(new Residueworks());
    }

    /** The same state, of an object that has done something else before. */
    Residueworks usedProgram() {
        Residueworks x = called(new Residueworks(), List.of(USE));
        for (int i = 0; i < registers.length; i++) {
            x.put(i, 0);
        }
        return made(x);
    }

    Reference reference() {
        return made(new Reference());
    }

    @Override
    public String toString() {
        return "registers " + Arrays.toString(registers) + ", text " + (written == null ? "" : "of " + written) + typed
            + ", row " + (rowed == null ? "" : "of " + rowed) + Arrays.toString(pushed) + ", told " + conditions;
    }
}
