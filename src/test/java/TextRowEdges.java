import java.math.BigInteger;

/** The edges that promises 16 to 25 name. */
final class TextRowEdges {
    private static final String NO_REGISTER = "Throws `IndexOutOfBoundsException` if there is no such register";
    private static final String NO_PLACE = "Throws `IndexOutOfBoundsException` if there is no such place";
    private static final String OUT_OF_RANGE = "Throws `IllegalArgumentException` if a number is out of range";
    private static final String PLACE = "- `place`: its place, from 0";
    private static final int[] BEYOND = {-1, 8, Integer.MIN_VALUE, Integer.MAX_VALUE};
    private static final BigInteger ONE = BigInteger.ONE;

    private TextRowEdges() {
    }

    static void run() {
        promise16();
        promise17();
        promise18();
        promise19();
        promise19NoNumber();
        promise19Refused();
        promise19TooLong();
        promise20();
        promise21();
        promise22();
        promise23();
        promise23TooLong();
        promise24();
        promise25();
    }

    private static BigInteger big(long number) {
        return Check.big(number);
    }

    private static void promise16() {
        Edge.says(16, "Types a sign behind the text.");
        Edge.answers(State.fresh(), 1, "type", '-');
        Edge.answers(State.some().text(""), 1, "type", 'x');
        Residueworks x = new Residueworks();
        Edge.says(16, "- `sign`: the sign");
        for (int sign = 33; sign <= 126; sign++) {
            Edge.same("type " + sign, sign - 32, x.type((char) sign));
        }
        for (int sign = 33; sign <= 126; sign++) {
            Edge.same("the sign " + sign, sign, (int) x.signAt(sign - 33));
        }
        Edge.says(16, "Returns how many signs it has then.");
        Edge.answers(State.some().text("123"), 4, "type", '4');
        State last = State.some().text(Check.LEAST, 2, "!~!~!~!");
        Edge.answers(last, 610, "type", '!');
        Edge.answers(last, 610, "type", '~');
        Edge.says(16, "Throws `IllegalArgumentException` if its code is not 33 to 126");
        for (int sign : new int[] {0, 1, 10, 31, 32, 127, 128, 161, 255, 256 + 33, 32768, 65535}) {
            Edge.refuses(State.some(), Check.ARGUMENT, "type", (char) sign);
            Edge.refuses(State.fresh(), Check.ARGUMENT, "type", (char) sign);
        }
        FaultsEdges.onlyCodes33To126();
        Edge.says(16, "Throws `IllegalStateException` if it has 610 signs");
        Edge.refuses(State.some().fullText(), Check.STATE, "type", '!');
        Edge.refuses(State.some().fullText(), Check.STATE, "type", '~');
        Residueworks full = State.fresh().fullText().program();
        full.erase();
        Edge.same("type into what was full", 1, full.type('a'));
    }

    private static void promise17() {
        Edge.says(17, "Takes the text away.");
        Residueworks x = State.some().fullText().program();
        x.erase();
        Edge.same("a sign of it", Calls.thrown(Check.PLACE), Calls.answer(x, "signAt", 0));
        x.type('b');
        Edge.same("the sign after it", 'b', x.signAt(0));
        Edge.same("no other one", Calls.thrown(Check.PLACE), Calls.answer(x, "signAt", 1));
        Edge.says(17, "Returns how many signs it had.");
        Edge.tells(State.fresh(), 0, "erase");
        Edge.tells(State.some().text(""), 0, "erase");
        Edge.answers(State.some().text("a"), 1, "erase");
        Edge.answers(State.some().text(Check.LEAST, 2, "!~!~!~!"), 609, "erase");
        Edge.answers(State.some().fullText(), 610, "erase");
    }

    private static void promise18() {
        Edge.says(18, "Returns a sign of the text.");
        Edge.says(18, "Returns the sign.");
        Edge.says(18, PLACE);
        Edge.tells(State.some().text("!"), '!', "signAt", 0);
        Edge.tells(State.some().text("!~"), '~', "signAt", 1);
        Edge.tells(State.some().fullText(), '-', "signAt", 0);
        Edge.tells(State.some().fullText(), '1', "signAt", 1);
        Edge.tells(State.some().fullText(), '0', "signAt", 601);
        Edge.tells(State.some().fullText(), '!', "signAt", 602);
        Edge.tells(State.some().fullText(), '~', "signAt", 609);
        Edge.says(18, NO_PLACE);
        for (int place : new int[] {-1, Integer.MIN_VALUE, Integer.MAX_VALUE, 610, 611}) {
            Edge.refuses(State.fresh(), Check.PLACE, "signAt", place);
            Edge.refuses(State.some().text("!"), Check.PLACE, "signAt", place);
            Edge.refuses(State.some().fullText(), Check.PLACE, "signAt", place);
        }
        Edge.refuses(State.fresh(), Check.PLACE, "signAt", 0);
        Edge.refuses(State.some().text("!"), Check.PLACE, "signAt", 1);
        Edge.refuses(State.some().text(Check.LEAST, 2, "!~!~!~!"), Check.PLACE, "signAt", 609);
    }

    private static void reads(String text, int radix, BigInteger want) {
        Edge.writes(State.some().text(text), 4, want, "read", 4, radix);
    }

    private static void reads(String text, int radix, long want) {
        reads(text, radix, big(want));
    }

    private static void promise19() {
        Edge.says(19, "Reads the text as a number: perhaps + or -, then digits, 0 to 9 and letters of either case for 10 and more;"
            + " the text stays.");
        reads("0", 2, 0);
        reads("+0", 2, 0);
        reads("-0", 36, 0);
        reads("-1", 2, -1);
        reads("+1", 36, 1);
        reads("0000", 10, 0);
        reads("-00012", 10, -12);
        reads("9", 10, 9);
        reads("zZ", 36, 35 * 37);
        reads("-aA", 11, -120);
        Edge.says(19, "- `radix`: 2 to 36");
        for (int radix = 2; radix <= 36; radix++) {
            String digit = Integer.toString(radix - 1, radix);
            reads("1" + digit, radix, 2L * radix - 1);
            reads("-" + digit.toUpperCase() + "0", radix, -(long) radix * (radix - 1));
        }
        for (int register = 0; register < 8; register++) {
            Edge.says(19, "- `to`: 0 to 7");
            Edge.writes(State.some().text("-77"), register, -77, "read", register, 10);
        }
        Edge.says(19, "Returns the length; -1 if the text is no number of the radix, the register stays then.");
        Edge.answers(State.some().text("-1"), 0, "read", 4, 10);
        Edge.answers(State.some().text("-2"), 1, "read", 4, 10);
        Edge.answers(State.some().text(Check.LEAST, 16, ""), 600, "read", 4, 16);
    }

    private static void promise19NoNumber() {
        String[] texts = {"", "+", "-", "++1", "--1", "+-1", "-+1", "1-", "1+", "1+1", "1-1", "2", "12", "21", "0x1", "1.0", "1_0",
            "!", "/", ":", "@", "[", "`", "{", "~", "1/", "1:", "-!"};
        for (String text : texts) {
            Edge.tells(State.some().text(text), -1, "read", 4, 2);
        }
        for (String text : new String[] {"/", ":", "@", "[", "`", "{", "1/", "1:", "1@", "1[", "1`", "1{"}) {
            Edge.tells(State.some().text(text), -1, "read", 4, 36);
        }
        for (int radix = 2; radix < 36; radix++) {
            String digit = Integer.toString(radix, 36);
            Edge.tells(State.some().text(digit), -1, "read", 4, radix);
            Edge.tells(State.some().text("1" + digit.toUpperCase()), -1, "read", 4, radix);
            Edge.tells(State.some().text("-" + digit + "1"), -1, "read", 4, radix);
        }
        Edge.tells(State.fresh(), -1, "read", 0, 2);
        // Its first 602 signs are one; it is none at its end.
        Edge.tells(State.some().fullText(), -1, "read", 4, 2);
        Edge.tells(State.some().text(Check.LEAST, 2, "0-"), -1, "read", 4, 2);
    }

    /** How many signs of a radix may be read. */
    private static int mostSigns(int radix) {
        return 640 / Check.big(radix - 1).bitLength();
    }

    private static void promise19Refused() {
        Edge.says(19, NO_REGISTER);
        for (int beyond : BEYOND) {
            Edge.refuses(State.some().text("1"), Check.PLACE, "read", beyond, 2);
            Edge.refuses(State.some().text("no!"), Check.PLACE, "read", beyond, 2);
        }
        Edge.says(19, OUT_OF_RANGE);
        for (int radix : new int[] {1, 37, 0, -1, -2, -10, Integer.MIN_VALUE, Integer.MAX_VALUE}) {
            Edge.refuses(State.some().text("1"), Check.ARGUMENT, "read", 0, radix);
            Edge.refuses(State.some().text(""), Check.ARGUMENT, "read", 0, radix);
        }
        Edge.says(19, "Throws `IllegalStateException` if the signs of the text, times how many bits (radix - 1) has, are more than"
            + " 640, whether or not it is a number; or if it is TOO LONG");
        for (int radix = 3; radix <= 36; radix++) {
            int most = mostSigns(radix);
            // Zeros are no long number, however many there are.
            Edge.writes(zeros(most, ""), 4, 0, "read", 4, radix);
            Edge.refuses(zeros(most, "0"), Check.STATE, "read", 4, radix);
            Edge.tells(zeros(most - 1, "!"), -1, "read", 4, radix);
            Edge.refuses(zeros(most, "!"), Check.STATE, "read", 4, radix);
        }
    }

    /** Little else than the text, which may take more than 300 calls. */
    private static State zeros(int count, String last) {
        return State.fresh().set(4, 77).text("0".repeat(count) + last);
    }

    private static State text(String signs) {
        return State.some().text(signs);
    }

    private static void promise19TooLong() {
        for (int bits = 1; bits <= 5; bits++) {
            int radix = 1 << bits;
            Edge.writes(State.some().text(Check.LONGEST, radix, ""), 4, Check.LONGEST, "read", 4, radix);
            Edge.writes(State.some().text(Check.LEAST, radix, ""), 4, Check.LEAST, "read", 4, radix);
            Edge.refuses(State.some().text(Check.two(600 - bits), radix, "0"), Check.STATE, "read", 4, radix);
            Edge.refuses(State.some().text(Check.two(600 - bits).negate(), radix, "1"), Check.STATE, "read", 4, radix);
        }
        Edge.writes(State.some().text(Check.LEAST.add(ONE), 2, ""), 4, Check.LEAST.add(ONE), "read", 4, 2);
        Edge.refuses(State.some().text(Check.LEAST.shiftRight(1), 2, "1"), Check.STATE, "read", 4, 2);
        Edge.refuses(State.some().text(Check.LEAST, 2, "00000000"), Check.STATE, "read", 4, 2);
        // 106 signs of the radix 36 are never too long.
        Edge.writes(text("z".repeat(106)), 4, big(36).pow(106).subtract(ONE), "read", 4, 36);
        Edge.refuses(text("z".repeat(107)), Check.STATE, "read", 4, 36);
    }

    private static void promise20() {
        Edge.says(20, "Makes the text a register, as toString() by the radix does.");
        Edge.says(20, "Returns how many signs it has.");
        Edge.says(20, "- `radix`: 2 to 36");
        BigInteger[] numbers = {big(0), big(1), big(-1), big(35), big(-36), Check.two(599), Check.LONGEST, Check.LEAST};
        for (int radix = 2; radix <= 36; radix++) {
            for (BigInteger number : numbers) {
                writesText(number, radix);
            }
        }
        Edge.answers(State.some().set(3, 0), 1, "write", 3, 2);
        Edge.answers(State.some().set(3, Check.LEAST), 602, "write", 3, 2);
        Edge.answers(State.some().set(3, Check.LONGEST), 600, "write", 3, 2);
        Edge.answers(State.some().fullText().set(3, 0), 1, "write", 3, 36);
        Edge.answers(State.some().fullText().set(3, Check.LEAST), 602, "write", 3, 2);
        for (int register = 0; register < 8; register++) {
            Edge.says(20, "- `from`: 0 to 7");
            Edge.answers(State.some().set(register, -99), 3, "write", register, 10);
        }
        Edge.says(20, NO_REGISTER);
        for (int beyond : BEYOND) {
            Edge.refuses(State.some(), Check.PLACE, "write", beyond, 2);
            Edge.refuses(State.some().fullText(), Check.PLACE, "write", beyond, 36);
        }
        Edge.says(20, OUT_OF_RANGE);
        for (int radix : new int[] {1, 37, 0, -1, -2, -10, Integer.MIN_VALUE, Integer.MAX_VALUE}) {
            Edge.refuses(State.some(), Check.ARGUMENT, "write", 0, radix);
            Edge.refuses(State.some().fullText(), Check.ARGUMENT, "write", 0, radix);
        }
    }

    private static void writesText(BigInteger number, int radix) {
        String want = number.toString(radix);
        StringBuilder text = new StringBuilder();
        for (int first = 0; first <= want.length(); first += 400) {
            Residueworks x = State.some().set(3, number).program();
            Edge.same(number + " by " + radix, want.length(), x.write(3, radix));
            for (int place = first; place < first + 400 && place < want.length(); place++) {
                text.append(x.signAt(place));
            }
            Edge.same("no more signs", Calls.thrown(Check.PLACE), Calls.answer(x, "signAt", want.length()));
        }
        Edge.same(number + " by " + radix, want, text.toString());
    }

    private static void promise21() {
        Edge.says(21, "Puts a byte behind the row.");
        Edge.answers(State.fresh(), 1, "push", 0);
        Edge.says(21, "- `eight`: -128 to 127");
        for (int eight = -128; eight <= 127; eight++) {
            Residueworks x = State.some().program();
            Edge.same("push " + eight, 4, x.push(eight));
            Edge.same("the byte " + eight, eight, x.byteAt(3));
        }
        Edge.says(21, "Returns how many bytes it has then.");
        Edge.answers(State.some().row(), 1, "push", -128);
        State last = State.some().row(Check.LONGEST, 1, 2, 3);
        Edge.answers(last, 80, "push", -128);
        Edge.answers(last, 80, "push", 127);
        Edge.says(21, OUT_OF_RANGE);
        for (int eight : new int[] {-129, 128, 255, 256, -256, Integer.MIN_VALUE, Integer.MAX_VALUE}) {
            Edge.refuses(State.some(), Check.ARGUMENT, "push", eight);
            Edge.refuses(State.fresh(), Check.ARGUMENT, "push", eight);
        }
        Edge.says(21, "Throws `IllegalStateException` if it has 80 bytes");
        Edge.refuses(State.some().fullRow(), Check.STATE, "push", -128);
        Edge.refuses(State.some().fullRow(), Check.STATE, "push", 0);
        Edge.refuses(State.some().fullRow(), Check.STATE, "push", 127);
        Residueworks full = State.fresh().fullRow().program();
        full.clearRow();
        Edge.same("push into what was full", 1, full.push(9));
    }

    private static void promise22() {
        Edge.says(22, "Takes the row away.");
        Residueworks x = State.some().fullRow().program();
        x.clearRow();
        Edge.same("a byte of it", Calls.thrown(Check.PLACE), Calls.answer(x, "byteAt", 0));
        x.push(3);
        Edge.same("the byte after it", 3, x.byteAt(0));
        Edge.same("no other one", Calls.thrown(Check.PLACE), Calls.answer(x, "byteAt", 1));
        Edge.says(22, "Returns how many bytes it had.");
        Edge.tells(State.fresh(), 0, "clearRow");
        Edge.tells(State.some().row(), 0, "clearRow");
        Edge.answers(State.some().row(7), 1, "clearRow");
        Edge.answers(State.some().row(Check.LONGEST, 1, 2, 3), 79, "clearRow");
        Edge.answers(State.some().fullRow(), 80, "clearRow");
    }

    private static int[] bytes(int count, int first, int others) {
        int[] bytes = new int[count];
        java.util.Arrays.fill(bytes, others);
        bytes[0] = first;
        return bytes;
    }

    private static void fromRow(int[] bytes, BigInteger want) {
        Edge.writes(State.some().row(bytes), 4, want, "fromRow", 4);
    }

    private static void promise23() {
        Edge.says(23, "Makes a register of the row, by two's complement, the highest byte first; the row stays.");
        fromRow(new int[] {0}, big(0));
        fromRow(new int[] {1}, big(1));
        fromRow(new int[] {-1}, big(-1));
        fromRow(new int[] {127}, big(127));
        fromRow(new int[] {-128}, big(-128));
        fromRow(new int[] {0, -128}, big(128));
        fromRow(new int[] {-1, 127}, big(-129));
        fromRow(new int[] {1, 2}, big(258));
        fromRow(bytes(80, 0, 0), big(0));
        fromRow(bytes(80, -1, -1), big(-1));
        Edge.says(23, "Returns the length; -1 if the row is empty, the register stays then.");
        Edge.tells(State.fresh(), -1, "fromRow", 0);
        Edge.tells(State.some().row().set(4, Check.LEAST), -1, "fromRow", 4);
        Edge.answers(State.some().row(0), 0, "fromRow", 4);
        Edge.answers(State.some().row(-1), 0, "fromRow", 4);
        Edge.answers(State.some().row(-2), 1, "fromRow", 4);
        for (int register = 0; register < 8; register++) {
            Edge.says(23, "- `to`: 0 to 7");
            Edge.writes(State.some().row(5), register, 5, "fromRow", register);
            Edge.tells(State.some().row(), -1, "fromRow", register);
        }
        Edge.says(23, NO_REGISTER);
        for (int beyond : BEYOND) {
            Edge.refuses(State.some(), Check.PLACE, "fromRow", beyond);
            Edge.refuses(State.some().row(), Check.PLACE, "fromRow", beyond);
        }
    }

    private static void promise23TooLong() {
        Edge.says(23, "Throws `IllegalStateException` if it is TOO LONG");
        fromRow(bytes(75, 127, -1), Check.two(599).subtract(ONE));
        fromRow(bytes(76, 0, -1), Check.LONGEST);
        fromRow(bytes(76, -1, 0), Check.LEAST);
        Edge.refuses(State.some().row(bytes(76, 1, 0)), Check.STATE, "fromRow", 4);
        Edge.refuses(State.some().row(bytes(76, -2, -1)), Check.STATE, "fromRow", 4);
        Edge.refuses(State.some().row(bytes(77, 1, 0)), Check.STATE, "fromRow", 4);
        Edge.refuses(State.some().row(bytes(77, -1, 0)), Check.STATE, "fromRow", 4);
        for (int first : new int[] {127, -128, 1, -2}) {
            Edge.refuses(State.some().row(bytes(80, first, 0)), Check.STATE, "fromRow", 4);
            Edge.refuses(State.some().row(bytes(80, first, -1)), Check.STATE, "fromRow", 4);
        }
        int[] longest = bytes(80, 0, -1);
        int[] least = bytes(80, -1, 0);
        for (int i = 0; i < 5; i++) {
            longest[i] = 0;
            least[i] = -1;
        }
        fromRow(longest, Check.LONGEST);
        fromRow(least, Check.LEAST);
        longest[4] = 1;
        least[4] = -2;
        Edge.refuses(State.some().row(longest), Check.STATE, "fromRow", 4);
        Edge.refuses(State.some().row(least), Check.STATE, "fromRow", 4);
    }

    private static void toRow(BigInteger number, int... want) {
        Residueworks x = State.some().set(4, number).program();
        Edge.same("toRow of " + number, want.length, x.toRow(4));
        for (int i = 0; i < want.length; i++) {
            Edge.same("byte " + i + " of " + number, want[i], x.byteAt(i));
        }
        Edge.same("no more bytes of " + number, Calls.thrown(Check.PLACE), Calls.answer(x, "byteAt", want.length));
        Edge.answers(State.some().set(4, number), want.length, "toRow", 4);
        Edge.answers(State.fresh().fullRow().set(4, number), want.length, "toRow", 4);
    }

    private static void promise24() {
        Edge.says(24, "Makes the row a register, as toByteArray() does.");
        Edge.says(24, "Returns how many bytes it has.");
        toRow(big(0), 0);
        toRow(big(-1), -1);
        toRow(big(127), 127);
        toRow(big(128), 0, -128);
        toRow(big(-128), -128);
        toRow(big(-129), -1, 127);
        toRow(big(255), 0, -1);
        toRow(big(256), 1, 0);
        toRow(big(-256), -1, 0);
        toRow(big(32767), 127, -1);
        toRow(big(32768), 0, -128, 0);
        toRow(Check.two(599).subtract(ONE), bytes(75, 127, -1));
        toRow(Check.two(599).negate(), bytes(75, -128, 0));
        int[] bytes = bytes(76, 0, 0);
        bytes[1] = -128;
        toRow(Check.two(599), bytes);
        toRow(Check.LONGEST, bytes(76, 0, -1));
        toRow(Check.LEAST, bytes(76, -1, 0));
        for (int register = 0; register < 8; register++) {
            Edge.says(24, "- `from`: 0 to 7");
            Edge.answers(State.some().set(register, 1000), 2, "toRow", register);
        }
        Edge.says(24, NO_REGISTER);
        for (int beyond : BEYOND) {
            Edge.refuses(State.some(), Check.PLACE, "toRow", beyond);
            Edge.refuses(State.some().fullRow(), Check.PLACE, "toRow", beyond);
        }
    }

    private static void promise25() {
        Edge.says(25, "Returns a byte of the row.");
        Edge.says(25, PLACE);
        Edge.says(25, "Returns the byte, -128 to 127.");
        Edge.tells(State.some().row(-128), -128, "byteAt", 0);
        Edge.tells(State.some().row(127, -1), 127, "byteAt", 0);
        Edge.tells(State.some().row(127, -1), -1, "byteAt", 1);
        Edge.tells(State.some().fullRow(), 0, "byteAt", 0);
        Edge.tells(State.some().fullRow(), -1, "byteAt", 75);
        Edge.tells(State.some().fullRow(), 1, "byteAt", 76);
        Edge.tells(State.some().fullRow(), -128, "byteAt", 79);
        Edge.says(25, NO_PLACE);
        for (int place : new int[] {-1, Integer.MIN_VALUE, Integer.MAX_VALUE, 80, 81}) {
            Edge.refuses(State.fresh(), Check.PLACE, "byteAt", place);
            Edge.refuses(State.some().row(5), Check.PLACE, "byteAt", place);
            Edge.refuses(State.some().fullRow(), Check.PLACE, "byteAt", place);
        }
        Edge.refuses(State.fresh(), Check.PLACE, "byteAt", 0);
        Edge.refuses(State.some().row(5), Check.PLACE, "byteAt", 1);
        Edge.refuses(State.some().row(Check.LONGEST, 1, 2, 3), Check.PLACE, "byteAt", 79);
    }
}
