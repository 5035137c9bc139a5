import java.math.BigInteger;
import java.util.Arrays;

/** What the document says of exceptions, of all calls: each argument that is out of its range, and two exceptions at once. */
final class FaultsEdges {
    private static final BigInteger ONE = BigInteger.ONE;

    /** What an argument may be. */
    private enum Kind { REGISTER, ANY, PLACE, BETWEEN, SIGN }

    private static final class Argument {
        final Kind kind;
        final int least;
        final int greatest;
        final String signs;

        Argument(Kind kind, int least, int greatest, String signs) {
            this.kind = kind;
            this.least = least;
            this.greatest = greatest;
            this.signs = signs;
        }

        Object usual() {
            return kind == Kind.SIGN ? (Object) signs.charAt(0) : kind == Kind.ANY ? (Object) 5L : (Object) ((least + greatest) / 2);
        }

        Object[] inside() {
            if (kind == Kind.ANY) {
                return new Object[] {Long.MIN_VALUE, -1L, 0L, 1L, Long.MAX_VALUE};
            }
            if (kind == Kind.SIGN) {
                return signs.chars().mapToObj(sign -> (char) sign).toArray();
            }
            return new Object[] {least, greatest};
        }

        Object[] outside() {
            if (kind == Kind.ANY) {
                return new Object[0];
            }
            if (kind == Kind.SIGN) {
                return new Object[] {' ', 'x', (char) 0, (char) 65535};
            }
            return new Object[] {least - 1, greatest + 1, Integer.MIN_VALUE, Integer.MAX_VALUE};
        }

        Class<?> due() {
            return kind == Kind.REGISTER || kind == Kind.PLACE ? Check.PLACE : Check.ARGUMENT;
        }
    }

    private static final Argument REGISTER = new Argument(Kind.REGISTER, 0, 7, "");
    private static final Argument ANY = new Argument(Kind.ANY, 0, 0, "");

    private static Argument between(int least, int greatest) {
        return new Argument(Kind.BETWEEN, least, greatest, "");
    }

    private static Argument sign(String signs) {
        return new Argument(Kind.SIGN, 0, 0, signs);
    }

    /** The places that the text and the row of the state have to which the table is applied. */
    private static final Argument TEXT_PLACE = new Argument(Kind.PLACE, 0, 2, "");
    private static final Argument ROW_PLACE = new Argument(Kind.PLACE, 0, 2, "");

    private static final Object[][] FACE = {
        {"put", REGISTER, ANY}, {"longer", REGISTER, ANY}, {"copy", REGISTER, REGISTER}, {"part", REGISTER, between(0, 700)},
        {"tells", REGISTER, sign("slct")}, {"exact", REGISTER}, {"compare", REGISTER, REGISTER},
        {"does", sign("+-*/%mgc&|^n<>"), REGISTER, REGISTER, REGISTER}, {"alone", sign("-a~q"), REGISTER, REGISTER},
        {"shifts", REGISTER, REGISTER, between(-700, 700)}, {"bit", REGISTER, between(0, 700)},
        {"setBit", REGISTER, between(0, 599), sign("10f")}, {"power", REGISTER, REGISTER, between(0, 64)},
        {"divides", REGISTER, REGISTER, REGISTER, REGISTER}, {"erase"}, {"signAt", TEXT_PLACE},
        {"read", REGISTER, between(2, 36)}, {"write", REGISTER, between(2, 36)}, {"push", between(-128, 127)}, {"clearRow"},
        {"fromRow", REGISTER}, {"toRow", REGISTER}, {"byteAt", ROW_PLACE},
        {"modPower", REGISTER, REGISTER, REGISTER, REGISTER}, {"inverse", REGISTER, REGISTER, REGISTER},
        {"symbol", REGISTER, REGISTER}, {"units", REGISTER}, {"order", REGISTER, REGISTER}, {"generator", REGISTER},
        {"isPrime", REGISTER}, {"modRoot", REGISTER, REGISTER, REGISTER}, {"condition", REGISTER, REGISTER},
        {"solve", REGISTER, REGISTER}, {"forget"}, {"root", REGISTER, REGISTER, between(1, 64)}, {"perfect", REGISTER},
        {"share", REGISTER}, {"meanLength"}, {"checksum"}, {"isTrue", REGISTER, REGISTER, REGISTER}};

    private FaultsEdges() {
    }

    static void run() {
        Edge.terms("A method that throws an exception changes nothing.");
        for (Object[] call : FACE) {
            insideRanges(call);
            outsideRanges(call);
        }
        Edge.terms("If several exceptions apply, the one that is documented first is thrown.");
        for (Object[] call : FACE) {
            twoOutside(call);
        }
        placeFirst();
        argumentFirst();
        numberFirst();
        afterRefusals();
        Edge.terms("An ArithmeticException is thrown where the call tells that there is no such number.");
        noSuchNumber();
    }

    // each argument alone

    private static Object[] usual(Object[] call) {
        Object[] arguments = new Object[call.length - 1];
        for (int i = 0; i < arguments.length; i++) {
            arguments[i] = ((Argument) call[i + 1]).usual();
        }
        return arguments;
    }

    /** A state in which no usual argument is refused for what the registers have, unless two must be others. */
    private static State even() {
        State state = State.fresh().text("1a~").row(-128, 5, 127).told(2, 3);
        for (int register = 0; register < 8; register++) {
            state.set(register, 7);
        }
        return state;
    }

    private static void insideRanges(Object[] call) {
        for (int i = 1; i < call.length; i++) {
            for (Object inside : ((Argument) call[i]).inside()) {
                Object[] arguments = usual(call);
                arguments[i - 1] = inside;
                String answer = Calls.answer(even().program(), (String) call[0], arguments);
                boolean another = call[0].equals("divides") || call[0].equals("solve");
                boolean due = answer.equals(Calls.thrown(Check.PLACE)) || answer.equals(Calls.thrown(Check.ARGUMENT)) && !another;
                Edge.same(Calls.told((String) call[0], arguments) + " is refused", false, due);
                Edge.agrees(even(), (String) call[0], arguments);
            }
        }
        if (call.length == 1) {
            Edge.agrees(even(), (String) call[0]);
        }
    }

    private static void outsideRanges(Object[] call) {
        for (int i = 1; i < call.length; i++) {
            Argument argument = (Argument) call[i];
            for (Object outside : argument.outside()) {
                Object[] arguments = usual(call);
                arguments[i - 1] = outside;
                Edge.refuses(even(), argument.due(), (String) call[0], arguments);
            }
        }
    }

    private static void twoOutside(Object[] call) {
        for (int i = 1; i < call.length; i++) {
            for (int j = i + 1; j < call.length; j++) {
                Argument one = (Argument) call[i];
                Argument other = (Argument) call[j];
                for (Object outside : one.outside()) {
                    for (Object alsoOutside : other.outside()) {
                        Object[] arguments = usual(call);
                        arguments[i - 1] = outside;
                        arguments[j - 1] = alsoOutside;
                        boolean place = one.due() == Check.PLACE || other.due() == Check.PLACE;
                        Edge.refuses(even(), place ? Check.PLACE : Check.ARGUMENT, (String) call[0], arguments);
                    }
                }
            }
        }
    }

    // all signs

    /** Of all signs that there are, the call takes these alone in the place of the question mark. */
    static void onlySigns(String signs, String name, Object... arguments) {
        Object[] told = arguments.clone();
        int at = Arrays.asList(arguments).indexOf('?');
        Residueworks x = null;
        for (int sign = 0; sign < 65536; sign++) {
            x = sign % 500 == 0 ? State.fresh().set(0, 3).set(1, 5).set(2, 9).program() : x;
            told[at] = (char) sign;
            String answer = Calls.answer(x, name, told);
            boolean refused = answer.equals(Calls.thrown(Check.ARGUMENT));
            Edge.same(Calls.told(name, told) + " is refused", signs.indexOf(sign) < 0, refused);
        }
    }

    static void onlyCodes33To126() {
        Residueworks x = null;
        int count = 0;
        for (int sign = 0; sign < 65536; sign++) {
            if (sign % 500 == 0) {
                x = new Residueworks();
                count = 0;
            }
            boolean due = sign >= 33 && sign <= 126;
            count += due ? 1 : 0;
            String want = due ? String.valueOf(count) : Calls.thrown(Check.ARGUMENT);
            Edge.same("type the sign " + sign, want, Calls.answer(x, "type", (char) sign));
        }
    }

    // two exceptions at once, by what the registers, the text, the row and the conditions have

    private static State numbers(BigInteger one, BigInteger other) {
        return State.some().set(1, one).set(2, other);
    }

    private static State numbers(long one, long other) {
        return numbers(Check.big(one), Check.big(other));
    }

    private static void placeFirst() {
        State least = numbers(Check.LEAST, Check.big(-1));
        State zero = numbers(-3, 0);
        for (int beyond : new int[] {-1, 8}) {
            Edge.refuses(least, Check.PLACE, "longer", beyond, 0);
            Edge.refuses(least, Check.PLACE, "exact", beyond);
            Edge.refuses(zero, Check.PLACE, "does", '/', beyond, 1, 2);
            Edge.refuses(zero, Check.PLACE, "does", '%', 1, beyond, 2);
            Edge.refuses(zero, Check.PLACE, "does", 'm', beyond, 1, 2);
            Edge.refuses(least, Check.PLACE, "does", '+', beyond, 1, 2);
            Edge.refuses(least, Check.PLACE, "does", '/', beyond, 1, 2);
            Edge.refuses(zero, Check.PLACE, "alone", 'q', beyond, 1);
            Edge.refuses(least, Check.PLACE, "alone", '-', beyond, 1);
            Edge.refuses(least, Check.PLACE, "shifts", beyond, 1, 1);
            Edge.refuses(least, Check.PLACE, "power", beyond, 1, 2);
            Edge.refuses(zero, Check.PLACE, "divides", beyond, beyond, 1, 2);
            Edge.refuses(zero, Check.PLACE, "divides", 3, 3, beyond, 2);
            Edge.refuses(zero, Check.PLACE, "divides", beyond, 3, 1, 2);
            Edge.refuses(least, Check.PLACE, "divides", 3, beyond, 1, 2);
            Edge.refuses(State.some().fullText(), Check.PLACE, "read", beyond, 10);
            Edge.refuses(State.some().text(Check.LEAST, 2, "0"), Check.PLACE, "read", beyond, 2);
            Edge.refuses(State.some().fullRow().row(TermsEdges.bytes(Check.two(600))), Check.PLACE, "fromRow", beyond);
            Edge.refuses(zero, Check.PLACE, "modPower", beyond, 1, 1, 2);
            Edge.refuses(zero, Check.PLACE, "inverse", beyond, 1, 2);
            Edge.refuses(zero, Check.PLACE, "symbol", beyond, 2);
            Edge.refuses(zero, Check.PLACE, "order", beyond, 2);
            Edge.refuses(zero, Check.PLACE, "modRoot", beyond, 1, 2);
            Edge.refuses(numbers(2, 3), Check.PLACE, "modRoot", beyond, 1, 2);
            Edge.refuses(zero, Check.PLACE, "condition", beyond, 2);
            Edge.refuses(State.some().fullConditions(), Check.PLACE, "condition", beyond, 0);
            Edge.refuses(tooLongMultiple(), Check.PLACE, "solve", beyond, 0);
            Edge.refuses(tooLongMultiple(), Check.PLACE, "solve", beyond, beyond);
            Edge.refuses(zero, Check.PLACE, "root", beyond, 1, 2);
            Edge.refuses(zero, Check.PLACE, "root", beyond, 1, 0);
        }
    }

    private static State tooLongMultiple() {
        return State.some().untold().told(ONE, Check.two(599)).told(1, 3);
    }

    private static void argumentFirst() {
        State least = numbers(Check.LEAST, Check.big(-1));
        State zero = numbers(-3, 0);
        Edge.refuses(least, Check.ARGUMENT, "does", 'x', 3, 1, 2);
        Edge.refuses(zero, Check.ARGUMENT, "does", 'M', 3, 1, 2);
        Edge.refuses(zero, Check.ARGUMENT, "alone", 'Q', 3, 1);
        Edge.refuses(least, Check.ARGUMENT, "alone", '+', 3, 1);
        Edge.refuses(least, Check.ARGUMENT, "shifts", 3, 1, 701);
        Edge.refuses(least, Check.ARGUMENT, "power", 3, 1, 65);
        Edge.refuses(zero, Check.ARGUMENT, "divides", 3, 3, 1, 2);
        Edge.refuses(least, Check.ARGUMENT, "divides", 3, 3, 1, 2);
        Edge.refuses(State.some().fullText(), Check.ARGUMENT, "type", ' ');
        Edge.refuses(State.some().fullText(), Check.ARGUMENT, "type", (char) 127);
        Edge.refuses(State.some().fullText(), Check.ARGUMENT, "read", 3, 1);
        Edge.refuses(State.some().fullText(), Check.ARGUMENT, "read", 3, 37);
        Edge.refuses(State.some().fullRow(), Check.ARGUMENT, "push", 128);
        Edge.refuses(State.some().fullRow(), Check.ARGUMENT, "push", -129);
        Edge.refuses(tooLongMultiple(), Check.ARGUMENT, "solve", 3, 3);
        Edge.refuses(zero, Check.ARGUMENT, "root", 3, 1, 0);
        Edge.refuses(zero, Check.ARGUMENT, "root", 3, 1, 65);
    }

    private static void numberFirst() {
        Edge.refuses(numbers(2, 9), Check.NUMBER, "modRoot", 3, 1, 2);
        Edge.refuses(numbers(3, 4), Check.NUMBER, "modRoot", 3, 1, 2);
        Edge.refuses(numbers(2, 1048575), Check.NUMBER, "modRoot", 3, 1, 2);
        Edge.refuses(numbers(2, 1048583), Check.NUMBER, "modRoot", 3, 1, 2);
        Edge.refuses(State.some().fullConditions().set(2, 0), Check.NUMBER, "condition", 1, 2);
        Edge.refuses(State.some().fullConditions().set(2, -5), Check.NUMBER, "condition", 1, 2);
    }

    /** One object that refuses each call, one after the other, and is then as one that was never asked. */
    private static void afterRefusals() {
        State state = numbers(Check.LEAST, Check.big(-1)).set(3, 0).set(4, 2).fullText().fullRow().fullConditions();
        Object[][] refused = {{"put", 8, 1}, {"longer", 1, 0}, {"copy", -1, 1}, {"part", 1, 701}, {"tells", 1, 'x'}, {"exact", 1},
            {"compare", 1, 8}, {"does", '/', 5, 1, 2}, {"does", 'c', 5, 1, 2}, {"does", '%', 5, 1, 3}, {"does", '?', 5, 1, 2},
            {"alone", 'a', 5, 1}, {"alone", 'q', 5, 2}, {"shifts", 5, 1, 1}, {"bit", 1, -1}, {"setBit", 1, 600, '1'},
            {"power", 5, 1, 64}, {"divides", 5, 6, 1, 2}, {"divides", 5, 5, 1, 2}, {"type", 'x'}, {"signAt", 610},
            {"read", 5, 36}, {"write", 5, 37}, {"push", 1}, {"fromRow", 8}, {"toRow", -1}, {"byteAt", 80},
            {"modPower", 5, 4, 2, 3}, {"inverse", 5, 4, 3}, {"symbol", 1, 2}, {"units", 3}, {"order", 4, 4}, {"generator", 2},
            {"isPrime", 2}, {"modRoot", 5, 4, 4}, {"condition", 1, 2}, {"condition", 1, 4}, {"solve", 5, 5}, {"root", 5, 2, 3},
            {"perfect", 3}, {"share", 2}, {"isTrue", 1, 2, 8}};
        Residueworks x = state.program();
        long before = state.program().checksum();
        for (Object[] call : refused) {
            Object[] arguments = Arrays.copyOfRange(call, 1, call.length);
            String name = (String) call[0];
            Edge.same(Calls.told(name, arguments) + " is refused", true, Calls.answer(x, name, arguments).startsWith("throws."));
            Edge.same(Calls.told(name, arguments) + " changed the checksum", before, x.checksum());
        }
        for (int register = 0; register < 8; register++) {
            Edge.same("register " + register, Check.get(state.program(), register), Check.get(x, register));
        }
    }

    private static void noSuchNumber() {
        Edge.refuses(numbers(5, 0), Check.NUMBER, "does", '/', 3, 1, 2);
        Edge.refuses(numbers(5, 0), Check.NUMBER, "does", '%', 3, 1, 2);
        Edge.refuses(numbers(5, 0), Check.NUMBER, "does", 'm', 3, 1, 2);
        Edge.refuses(numbers(-1, 0), Check.NUMBER, "alone", 'q', 3, 1);
        Edge.refuses(numbers(5, 0), Check.NUMBER, "divides", 3, 4, 1, 2);
        Edge.refuses(numbers(1L << 31, 0), Check.NUMBER, "exact", 1);
        Edge.refuses(numbers(0, 2), Check.NUMBER, "inverse", 3, 1, 2);
        Edge.refuses(numbers(0, 2).set(4, -1), Check.NUMBER, "modPower", 3, 1, 4, 2);
        Edge.refuses(numbers(0, 2), Check.NUMBER, "order", 1, 2);
        Edge.refuses(numbers(-1, 0), Check.NUMBER, "root", 3, 1, 2);
        Edge.refuses(numbers(1, 0), Check.NUMBER, "perfect", 1);
        Edge.refuses(numbers(1, 0), Check.NUMBER, "share", 2);
    }
}
