import java.io.IOException;
import java.math.BigInteger;
import java.nio.file.Files;
import java.nio.file.Path;
import java.util.ArrayList;
import java.util.LinkedHashMap;
import java.util.List;
import java.util.Map;

/**
 * The edges that the document names: the sentence that a test is of, and a call at an edge, whose
 * answer and whole state afterwards are held against what is due.
 */
final class Edge {
    private static final Path DOCUMENT = Path.of("../shared/DOC.md");
    private static final int QUARTER = 153;
    private static final int PARTS = 9;
    /** One of each call, on what any state has; most of them answer, some refuse. */
    private static final Object[][] EVERY_CALL = {
        {"part", 2, 3}, {"tells", 3, 'c'}, {"exact", 4}, {"compare", 0, 5}, {"bit", 6, 8}, {"signAt", 1}, {"byteAt", 1},
        {"symbol", 2, 4}, {"units", 0}, {"order", 1, 0}, {"generator", 4}, {"isPrime", 5}, {"perfect", 7}, {"share", 1},
        {"meanLength"}, {"isTrue", 1, 2, 0}, {"read", 7, 36}, {"fromRow", 6}, {"solve", 5, 4}, {"condition", 1, 2},
        {"type", 'Z'}, {"push", -9}, {"does", '+', 0, 0, 1}, {"does", '*', 1, 1, 3}, {"does", '/', 4, 3, 2},
        {"does", '%', 5, 3, 2}, {"does", 'm', 5, 3, 2}, {"does", 'g', 4, 1, 2}, {"does", 'c', 4, 7, 6}, {"does", '&', 4, 3, 2},
        {"does", '|', 4, 3, 2}, {"does", '^', 4, 3, 2}, {"does", 'n', 4, 3, 2}, {"does", '<', 5, 3, 2}, {"alone", '-', 5, 3},
        {"alone", 'a', 5, 3}, {"alone", '~', 5, 3}, {"alone", 'q', 6, 2}, {"shifts", 6, 2, 9}, {"setBit", 6, 70, 'f'},
        {"power", 6, 7, 3}, {"divides", 4, 5, 3, 2}, {"modPower", 5, 1, 7, 2}, {"inverse", 5, 3, 2}, {"modRoot", 5, 6, 0},
        {"root", 4, 2, 3}, {"longer", 5, -1}, {"copy", 4, 3}, {"write", 4, 36}, {"toRow", 4}, {"put", 4, 4}, {"checksum"}};

    private static final Map<String, List<String>> SECTIONS = new LinkedHashMap<>();
    private static final List<String> TOLD = new ArrayList<>();
    private static String sentence = "";

    private Edge() {
    }

    // the document's sentences

    static void readDocument() throws IOException {
        List<String> lines = new ArrayList<>();
        for (String line : Files.readAllLines(DOCUMENT)) {
            if (line.startsWith("## ")) {
                lines = new ArrayList<>();
                SECTIONS.put(line.substring(3).replaceAll("^(Promise \\d+): .*", "$1"), lines);
            } else if (!line.isBlank()) {
                // What a call is for stands behind its head.
                lines.add(line.replaceAll("^`[^`]*\\([^`]*\\)[^`]*`: ", "").strip());
            }
        }
    }

    /** The next tests are of this line of a promise. */
    static void says(int promise, String line) {
        sentence = "Promise " + promise + ": " + line;
        Check.same("the document says \"" + sentence + "\"", true,
            SECTIONS.getOrDefault("Promise " + promise, List.of()).contains(line));
        TOLD.add(sentence);
    }

    /** The next tests are of this sentence from ahead of the promises. */
    static void terms(String words) {
        sentence = words;
        Check.same("the document says \"" + words + "\"", true, ahead().contains(words));
        TOLD.add(words);
    }

    private static String ahead() {
        List<String> lines = new ArrayList<>(SECTIONS.getOrDefault("What it is", List.of()));
        lines.addAll(SECTIONS.getOrDefault("Terms", List.of()));
        lines.removeIf(line -> line.startsWith("Ahead of the calls "));
        return String.join(" ", lines);
    }

    /** That each line of each promise, and each sentence ahead of them, has been told by a test. */
    static void allTold() {
        String left = ahead();
        int promises = 0;
        for (String told : TOLD) {
            left = left.replace(told, "");
        }
        Check.same("what no test tells", "", left.strip());
        for (String section : SECTIONS.keySet()) {
            if (section.startsWith("Promise ")) {
                promises++;
                for (String line : SECTIONS.get(section)) {
                    Check.same("a test tells " + section + ": " + line, true, TOLD.contains(section + ": " + line));
                }
            }
        }
        Check.same("promises", 42, promises);
    }

    static void same(String what, Object want, Object got) {
        Check.same("\"" + sentence + "\" " + what, want, got);
    }

    // calls at an edge

    /** The call answers so; what it changes is what the reference changes. */
    static void answers(State state, Object want, String name, Object... arguments) {
        hold(state, String.valueOf(want), name, arguments);
    }

    /** The call answers so, and changes nothing. */
    static void tells(State state, Object want, String name, Object... arguments) {
        hold(state, String.valueOf(want), name, arguments);
        stays(state, name, arguments);
    }

    /** The register has the number then, and the call answers its length. */
    static void writes(State state, int register, BigInteger want, String name, Object... arguments) {
        hold(state, String.valueOf(want.bitLength()), name, arguments);
        Residueworks x = state.program();
        Calls.answer(x, name, arguments);
        same(Calls.told(name, arguments) + " of " + state + " wrote", want, Check.get(x, register));
    }

    static void writes(State state, int register, long want, String name, Object... arguments) {
        writes(state, register, Check.big(want), name, arguments);
    }

    /** The call throws that exception, and changes nothing. */
    static void refuses(State state, Class<?> due, String name, Object... arguments) {
        hold(state, Calls.thrown(due), name, arguments);
        stays(state, name, arguments);
    }

    /** The call answers, or refuses, and changes what the reference does. */
    static void agrees(State state, String name, Object... arguments) {
        hold(state, Calls.answer(state.reference(), name, arguments), name, arguments);
    }

    private static void hold(State state, String want, String name, Object... arguments) {
        String what = Calls.told(name, arguments) + " of " + state;
        Residueworks x = state.program();
        same(what, want, Calls.answer(x, name, arguments));
        Reference due = state.reference();
        same(what + ", the reference", want, Calls.answer(due, name, arguments));
        same(what + ", then checksum()", due.checksum(), x.checksum());
        Residueworks used = state.usedProgram();
        same(what + ", used before", want, Calls.answer(used, name, arguments));
        same(what + ", used before, then checksum()", due.checksum(), used.checksum());
        for (int part = 0; part < PARTS; part++) {
            Reference y = state.reference();
            Calls.answer(y, name, arguments);
            same(what + ", then part " + part, read(y, part), readAfter(state, part, name, arguments));
        }
    }

    private static void stays(State state, String name, Object... arguments) {
        String what = Calls.told(name, arguments) + " of " + state;
        Residueworks x = state.program();
        long before = x.checksum();
        Calls.answer(x, name, arguments);
        same(what + " changed the checksum", before, x.checksum());
        for (int part = 0; part < PARTS; part++) {
            same(what + " changed part " + part, read(state.program(), part), readAfter(state, part, name, arguments));
        }
    }

    private static String readAfter(State state, int part, String name, Object... arguments) {
        Residueworks x = state.program();
        Calls.answer(x, name, arguments);
        return read(x, part);
    }

    /** A part of what an object has, by the other calls: each part is read of an object of its own, for their number. */
    private static String read(Object object, int part) {
        StringBuilder all = new StringBuilder();
        if (part < 2) {
            for (int register = 4 * part; register < 4 * part + 4; register++) {
                readRegister(all, object, register);
            }
        } else if (part < 6) {
            readPlaces(all, object, "signAt", (part - 2) * QUARTER, QUARTER);
        } else if (part == 6) {
            readPlaces(all, object, "byteAt", 0, 81);
        } else if (part == 7) {
            all.append(Calls.answer(object, "solve", 0, 1)).append(' ');
            readRegister(all, object, 0);
            readRegister(all, object, 1);
            for (String name : new String[] {"forget", "clearRow", "erase"}) {
                all.append(Calls.answer(object, name)).append(' ');
            }
        } else {
            for (Object[] call : EVERY_CALL) {
                Object[] arguments = java.util.Arrays.copyOfRange(call, 1, call.length);
                all.append(Calls.answer(object, (String) call[0], arguments)).append(' ');
            }
        }
        return all.toString();
    }

    private static void readRegister(StringBuilder all, Object object, int register) {
        for (char what : "slct".toCharArray()) {
            all.append(Calls.answer(object, "tells", register, what)).append(' ');
        }
        for (int at = 0; at <= 640; at += 64) {
            all.append(Calls.answer(object, "part", register, at)).append(' ');
        }
        all.append(Calls.answer(object, "bit", register, 700)).append(' ');
    }

    private static void readPlaces(StringBuilder all, Object object, String name, int first, int most) {
        for (int place = first; place < first + most; place++) {
            String answer = Calls.answer(object, name, place);
            all.append(answer).append(' ');
            if (answer.startsWith("throws")) {
                return;
            }
        }
    }
}
