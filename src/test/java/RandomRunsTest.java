import java.util.Arrays;

/** Long runs of calls that a counter draws, each answer and each state held against the reference. */
public final class RandomRunsTest {
    private static final int RUNS = 700;
    private static final int CALLS = 512;
    private static final String[] NAMES = {"put", "longer", "copy", "part", "tells", "exact", "compare", "does",
        "alone", "shifts", "bit", "setBit", "power", "divides", "type", "erase", "signAt", "read", "write", "push",
        "clearRow", "fromRow", "toRow", "byteAt", "modPower", "inverse", "symbol", "units", "order", "generator",
        "isPrime", "modRoot", "condition", "solve", "forget", "root", "perfect", "share", "meanLength", "checksum",
        "isTrue"};
    private static final String[] FREQUENT = {"put", "longer", "longer", "does", "does", "does", "setBit", "shifts",
        "alone", "type", "push", "condition", "copy"};
    private static final long[] EDGES = {0, 1, 2, 3, -1, -2, 4, 7, 8, 9, 15, 16, 1L << 30, (1L << 30) - 1, -(1L << 30),
        1L << 31, -(1L << 31), (1L << 31) - 1, -(1L << 31) - 1, 1L << 60, (1L << 60) - 1, -(1L << 60), Long.MAX_VALUE,
        Long.MIN_VALUE, 4095, 4096, 4097, 1048573, 1048575, 1048576, 1048583, 65537, 6561};

    private static Draw draw;
    private static int wrong;

    private static int register() {
        return draw.oneIn(60) ? (draw.oneIn(2) ? -1 : 8) : draw.below(8);
    }

    private static long longNumber() {
        switch (draw.below(4)) {
            case 0: return EDGES[draw.below(EDGES.length)];
            case 1: return draw.word();
            case 2: return draw.below(5000);
            default: return draw.word() >> draw.below(64);
        }
    }

    private static Object[] arguments(String name) {
        switch (name) {
            case "put": case "longer": return new Object[] {register(), longNumber()};
            case "part": case "bit": return new Object[] {register(), draw.number(0, 700)};
            case "tells": return new Object[] {register(), draw.of("slctslctx")};
            case "does": return new Object[] {draw.of("+-*/%mgc&|^n<>+-*/%mgc&|^n<>x"), register(), register(), register()};
            case "alone": return new Object[] {draw.of("-a~q-a~qx"), register(), register()};
            case "shifts": return new Object[] {register(), register(), draw.oneIn(2) ? draw.below(60) - 30 : draw.number(-700, 700)};
            case "setBit": return new Object[] {register(), draw.number(0, 599), draw.of("10f10f10fx")};
            case "power": return new Object[] {register(), register(), draw.oneIn(2) ? draw.below(5) : draw.number(0, 64)};
            case "root": return new Object[] {register(), register(), draw.oneIn(2) ? 1 + draw.below(5) : draw.number(1, 64)};
            case "type": return new Object[] {draw.oneIn(2) ? draw.of("0123456789abzABZ+-") : (char) draw.number(33, 126)};
            case "signAt": return new Object[] {draw.number(0, draw.oneIn(3) ? 609 : 3)};
            case "byteAt": return new Object[] {draw.number(0, draw.oneIn(3) ? 79 : 3)};
            case "push": return new Object[] {draw.number(-128, 127)};
            case "read": case "write": return new Object[] {register(), draw.number(2, 36)};
            default:
                Object[] many = new Object[Calls.method(Residueworks.class, name).getParameterCount()];
                for (int i = 0; i < many.length; i++) {
                    many[i] = register();
                }
                return many;
        }
    }

    private static void run(int number) {
        draw = new Draw(number);
        Residueworks program = new Residueworks();
        Reference reference = new Reference();
        // A run draws mostly from a few kinds of calls, so that text, row and conditions fill in some.
        String[] some = {NAMES[draw.below(NAMES.length)], NAMES[draw.below(NAMES.length)], NAMES[draw.below(NAMES.length)]};
        StringBuilder told = new StringBuilder();
        for (int call = 0; call < CALLS; call++) {
            String name = draw.oneIn(3) ? FREQUENT[draw.below(FREQUENT.length)] : draw.oneIn(3) ? some[draw.below(3)] : NAMES[draw.below(NAMES.length)];
            if ((name.equals("erase") || name.equals("clearRow") || name.equals("forget")) && !draw.oneIn(4)) {
                name = "type";
            }
            Object[] arguments = arguments(name);
            String got = Calls.answer(program, name, arguments);
            String want = Calls.answer(reference, name, arguments);
            told.append(name).append(Arrays.toString(arguments)).append(' ').append(got).append('\n');
            if (!got.equals(want) || program.checksum() != reference.checksum()) {
                wrong++;
                System.out.println("run " + number + ", call " + call + ": answered " + got + ", due is " + want
                    + "; the last calls:\n" + told.substring(Math.max(0, told.length() - 600)));
                return;
            }
        }
    }

    public static void main(String[] args) {
        int runs = args.length > 0 ? Integer.parseInt(args[0]) : RUNS;
        for (int i = 1; i <= runs && wrong < 5; i++) {
            run(i);
        }
        System.out.println(wrong == 0 ? "all random runs are as due" : wrong + " runs are not as due");
        if (wrong != 0) {
            System.exit(1);
        }
    }
}
