import java.io.IOException;
import java.io.PrintWriter;
import java.io.StringWriter;
import java.lang.reflect.Method;
import java.nio.file.DirectoryStream;
import java.nio.file.Files;
import java.nio.file.Path;
import java.util.Set;
import java.util.TreeSet;
import java.util.regex.Matcher;
import java.util.regex.Pattern;
import java.util.spi.ToolProvider;

/** README.md: each call of its short run answers as it says, and each call of the face and each test stands in it. */
public final class ReadmeTest {
    private static final String README = "README.md";
    private static final String DOCUMENT = "../shared/DOC.md";
    private static final String NEW_OBJECT = "Residueworks x = new Residueworks();";
    private static final Pattern CALL = Pattern.compile("x\\.(\\w+)\\((.*)\\); +// ([^:]+)(: .+)?");

    private static Residueworks program;
    private static Reference reference;

    public static void main(String[] args) throws IOException {
        String readme = Files.readString(Path.of(README));
        run(block(readme));
        compiles(block(readme));
        namesEachCall(readme);
        namesEachTest(readme);
        Check.finish();
    }

    private static String block(String text) {
        String block = text.substring(text.indexOf("```java\n") + 8);
        return block.substring(0, block.indexOf("```"));
    }

    private static void run(String block) {
        Set<String> called = new TreeSet<>();
        int calls = 0;
        for (String line : block.split("\n")) {
            Matcher call = CALL.matcher(line);
            if (line.equals(NEW_OBJECT)) {
                program = new Residueworks();
                reference = new Reference();
                calls = 0;
            } else if (call.matches() && program != null) {
                calls++;
                called.add(call.group(1));
                answers(line, call.group(1), call.group(2), call.group(3));
            } else {
                Check.same("the line can be run or is a remark: " + line, true, line.isEmpty() || line.startsWith("// "));
            }
        }
        Check.same("an object serves for so many calls", true, calls > 0 && calls <= 512);
        Check.same("many calls are shown", true, called.size() >= 30);
    }

    private static void answers(String line, String name, String arguments, String due) {
        Method method = Calls.method(Residueworks.class, name);
        String[] written = arguments.isEmpty() ? new String[0] : arguments.split(", ");
        Object[] values = new Object[written.length];
        for (int i = 0; i < written.length; i++) {
            values[i] = value(written[i], method.getParameterTypes()[i]);
        }
        Check.same(line + " by the program", due, told(Calls.answer(program, name, values), method));
        Check.same(line + " by the reference", due, told(Calls.answer(reference, name, values), method));
        Check.same(line + " then checksum()", reference.checksum(), program.checksum());
    }

    private static Object value(String written, Class<?> type) {
        if (type == char.class) {
            return written.charAt(1);
        }
        return type == long.class ? (Object) Long.parseLong(written) : (Object) Integer.parseInt(written);
    }

    private static String told(String answer, Method method) {
        if (answer.startsWith("throws.")) {
            return "throws " + answer.substring(answer.lastIndexOf('.') + 1);
        }
        return method.getReturnType() == char.class ? "'" + answer + "'" : answer;
    }

    /** That the lines are Java as they stand. */
    private static void compiles(String block) throws IOException {
        Path folder = Files.createTempDirectory("readme");
        Path file = folder.resolve("Shown.java");
        Files.writeString(file, "class Shown {\n    static void shown() {\n" + block + "    }\n}\n");
        StringWriter out = new StringWriter();
        ToolProvider javac = ToolProvider.findFirst("javac").orElseThrow();
        int failed = javac.run(new PrintWriter(out), new PrintWriter(out), "-cp", System.getProperty("java.class.path"),
            "-d", folder.toString(), file.toString());
        Check.same("the shown lines compile: " + out, 0, failed);
        for (String name : new String[] {"Shown.class", "Shown.java", ""}) {
            Files.deleteIfExists(folder.resolve(name));
        }
    }

    private static void namesEachCall(String readme) throws IOException {
        int calls = 0;
        for (String line : block(Files.readString(Path.of(DOCUMENT))).split("\n")) {
            Matcher member = Pattern.compile(" *public \\w+ (\\w+)\\((.*?)\\).*;").matcher(line);
            if (member.matches()) {
                String names = member.group(2).replaceAll("\\w+ (\\w+)", "$1");
                String row = "\n| `" + member.group(1) + "(" + names + ")` | ";
                Check.same("README.md has " + row.strip(), true, readme.contains(row));
                calls++;
            }
        }
        Check.same("calls of the face", 41, calls);
    }

    private static void namesEachTest(String readme) throws IOException {
        int tests = 0;
        try (DirectoryStream<Path> files = Files.newDirectoryStream(Path.of("src/test/java"), "*Test.java")) {
            for (Path file : files) {
                String name = file.getFileName().toString().replace(".java", "");
                Check.same("README.md has " + name, true, readme.contains("\n| " + name + " | "));
                tests++;
            }
        }
        Check.same("tests that README.md has", tests, readme.split("\n\\| \\w+Test \\| ", -1).length - 1);
    }
}
