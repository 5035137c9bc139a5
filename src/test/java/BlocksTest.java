import java.math.BigInteger;
import java.util.Arrays;

/**
 * Long numbers whose parts are all ones or all zeros: runs of calls on a few registers, often the
 * same ones, and each way in which the registers of one call can be the same; each answer and each
 * state held against the reference.
 */
public final class BlocksTest {
    private static final int RUNS = 900;
    private static final int CALLS = 512;
    private static final int MOST_BITS = 600;
    /** The parts end at the ends of limbs, bytes, ints and longs, beside them, and elsewhere. */
    private static final int[] WIDTHS = {1, 2, 7, 8, 15, 16, 29, 30, 31, 32, 33, 59, 60, 61, 63, 64, 65, 89, 90, 91, 120, 128, 150,
        199, 200, 269, 270, 299, 300, 301, 570, 599, 600};
    private static final String SIGNS = "+-*/%mgc&|^n<>";
    private static final String[] NAMES = {"does", "does", "does", "does", "does", "does", "does", "divides", "divides", "alone",
        "alone", "shifts", "shifts", "setBit", "longer", "power", "root", "perfect", "modPower", "inverse", "symbol", "order",
        "modRoot", "condition", "solve", "forget", "toRow", "fromRow", "push", "write", "read", "type", "copy", "part", "tells",
        "bit", "compare", "exact", "units", "generator", "isPrime", "share", "meanLength", "isTrue"};

    private static int wrong;
    private static long held;

    private final Draw draw;
    private final Residueworks program = new Residueworks();
    private final Reference reference = new Reference();
    private final StringBuilder told = new StringBuilder();
    private int calls;
    private int few = 8;

    private BlocksTest(long seed) {
        draw = new Draw(seed);
    }

    /** A number of at most 600 bits, of parts that are all ones or all zeros. */
    static BigInteger blocks(Draw draw, int mostBits) {
        int width = draw.of(WIDTHS);
        int kind = draw.below(5);
        int single = draw.below(MOST_BITS / width + 1);
        BigInteger number = BigInteger.ZERO;
        BigInteger ones = BigInteger.ONE.shiftLeft(width).subtract(BigInteger.ONE);
        for (int part = 0; part * width < mostBits; part++) {
            boolean full = kind == 0 ? draw.oneIn(2) : kind == 1 ? part % 2 == single % 2 : kind == 2 ? part == single
                : kind == 3 ? part != single : part >= single;
            number = full ? number.or(ones.shiftLeft(part * width)) : number;
        }
        int length = draw.oneIn(2) ? mostBits : draw.oneIn(2) ? Math.min(mostBits, draw.of(WIDTHS)) : 1 + draw.below(mostBits);
        return number.mod(BigInteger.ONE.shiftLeft(length));
    }

    private BigInteger number() {
        BigInteger number;
        switch (draw.below(8)) {
            case 0:
                // What a division by a block leaves nothing of, or all but one of.
                number = blocks(draw, 300).multiply(blocks(draw, 300));
                break;
            case 1:
                number = blocks(draw, 150).pow(draw.of(2, 3, 4));
                break;
            case 2:
                number = BigInteger.valueOf(draw.below(4200));
                break;
            default:
                number = blocks(draw, MOST_BITS);
        }
        number = draw.oneIn(3) ? number.add(BigInteger.valueOf(draw.of(-2, -1, 1, 2))) : number;
        // Odd ones above 0 are moduli that much is prime to.
        number = draw.oneIn(3) ? number.setBit(0) : draw.oneIn(3) ? number.negate() : draw.oneIn(3) ? number.not() : number;
        return number.bitLength() > MOST_BITS ? number.shiftRight(number.bitLength() - MOST_BITS) : number;
    }

    private int register() {
        return draw.oneIn(150) ? draw.of(-1, 8) : draw.below(few);
    }

    private Object[] arguments(String name) {
        switch (name) {
            case "longer": return new Object[] {register(), draw.oneIn(2) ? 0L : -1L << draw.below(64)};
            case "part": case "bit": return new Object[] {register(), draw.number(0, 700)};
            case "tells": return new Object[] {register(), draw.of("slct")};
            case "does": return new Object[] {draw.of(SIGNS), register(), register(), register()};
            case "alone": return new Object[] {draw.of("-a~q"), register(), register()};
            case "shifts": return new Object[] {register(), register(), draw.of(-1, 1) * draw.of(WIDTHS)};
            case "setBit": return new Object[] {register(), draw.of(WIDTHS) - draw.below(2), draw.of("10f")};
            case "power": return new Object[] {register(), register(), draw.oneIn(2) ? draw.below(5) : draw.number(0, 64)};
            case "root": return new Object[] {register(), register(), draw.oneIn(2) ? 1 + draw.below(5) : draw.number(1, 64)};
            case "push": return new Object[] {draw.of(-128, -1, 0, 127)};
            case "type": return new Object[] {draw.of("01+-zZ9~")};
            case "read": case "write": return new Object[] {register(), draw.of(2, 3, 4, 8, 10, 16, 32, 36)};
            default:
                Object[] many = new Object[Calls.method(Residueworks.class, name).getParameterCount()];
                for (int i = 0; i < many.length; i++) {
                    many[i] = register();
                }
                return many;
        }
    }

    /** Holds a call and the state behind it; false if they are not as due. */
    private boolean goes(String name, Object... arguments) {
        String got = Calls.answer(program, name, arguments);
        String want = Calls.answer(reference, name, arguments);
        told.append(name).append(Arrays.toString(arguments)).append(' ').append(got).append('\n');
        calls++;
        held++;
        if (got.equals(want) && program.checksum() == reference.checksum()) {
            return true;
        }
        wrong++;
        System.out.println("call " + calls + " answered " + got + ", due is " + want + "; the last calls:\n"
            + told.substring(Math.max(0, told.length() - 900)));
        return false;
    }

    private boolean puts(int register, BigInteger number) {
        int words = number.bitLength() / 64;
        boolean goes = goes("put", register, number.shiftRight(64 * words).longValue());
        for (int i = words - 1; i >= 0 && goes; i--) {
            goes = goes("longer", register, number.shiftRight(64 * i).longValue());
        }
        return goes;
    }

    private void run() {
        few = 2 + draw.below(7);
        boolean goes = true;
        for (int register = 0; register < few && goes; register++) {
            goes = puts(register, number());
        }
        while (goes && calls < CALLS - 12) {
            String name = NAMES[draw.below(NAMES.length)];
            int register = draw.below(few);
            if (reference.held(register).bitLength() < MOST_BITS / 3 && draw.oneIn(3)) {
                goes = puts(register, number());
            } else if (draw.oneIn(20)) {
                goes = goes(draw.oneIn(2) ? "erase" : "clearRow");
            } else {
                goes = goes(name, arguments(name));
            }
        }
    }

    /** Each way in which the registers of one call are the same: those from 4 on keep the numbers. */
    private void same(String name, char sign, int count) {
        boolean goes = true;
        for (int i = 0; i < 3 && goes; i++) {
            goes = puts(4 + i, number());
        }
        for (int way = 0; way < Math.pow(3, count) && goes; way++) {
            for (int i = 0; i < 3 && goes; i++) {
                goes = goes("copy", i, 4 + i);
            }
            Object[] arguments = new Object[count + (sign == ' ' ? 0 : 1)];
            arguments[0] = sign;
            for (int i = 0; i < count; i++) {
                arguments[arguments.length - count + i] = way / (int) Math.pow(3, i) % 3;
            }
            goes = goes && goes(name, arguments);
        }
    }

    private static void sameOnes(int times) {
        for (int i = 0; i < times; i++) {
            for (char sign : SIGNS.toCharArray()) {
                new BlocksTest(1000003L * i + sign).same("does", sign, 3);
            }
            for (char sign : "-a~q".toCharArray()) {
                new BlocksTest(1000003L * i + 200 + sign).same("alone", sign, 2);
            }
            String[] names = {"divides", "modPower", "inverse", "solve", "condition", "symbol", "order", "compare", "copy", "isTrue"};
            for (int j = 0; j < names.length; j++) {
                int count = Calls.method(Residueworks.class, names[j]).getParameterCount();
                new BlocksTest(1000003L * i + 400 + j).same(names[j], ' ', count);
            }
        }
    }

    public static void main(String[] args) {
        int runs = args.length > 0 ? Integer.parseInt(args[0]) : RUNS;
        sameOnes(runs / 60 + 1);
        for (int i = 1; i <= runs && wrong < 5; i++) {
            new BlocksTest(i).run();
        }
        System.out.println(wrong == 0 ? held + " answers as due" : wrong + " runs are not as due");
        if (wrong != 0) {
            System.exit(1);
        }
    }
}
