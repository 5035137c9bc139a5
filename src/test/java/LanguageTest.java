import java.io.IOException;
import java.io.PrintWriter;
import java.io.StringWriter;
import java.lang.reflect.Constructor;
import java.lang.reflect.Field;
import java.lang.reflect.Method;
import java.lang.reflect.Modifier;
import java.nio.file.Files;
import java.nio.file.Path;
import java.util.ArrayList;
import java.util.HashMap;
import java.util.LinkedHashSet;
import java.util.List;
import java.util.Map;
import java.util.Set;
import java.util.TreeSet;
import java.util.regex.Matcher;
import java.util.regex.Pattern;
import java.util.spi.ToolProvider;

/** The document's face, and those rules of LANGUAGE.md that can be seen from outside. Runs in the project's folder. */
public final class LanguageTest {
    private static final String SOURCE = "src/main/java/Residueworks.java";
    private static final String DOCUMENT = "../shared/DOC.md";
    /** Of what rule 4 lists, what the program uses; and the exceptions that it makes. */
    private static final Set<String> LIBRARY = Set.of("java/lang/Object.<init>", "java/lang/System.arraycopy", "java/util/Arrays.fill",
        "java/lang/Integer.bitCount", "java/lang/Integer.numberOfLeadingZeros", "java/lang/Integer.numberOfTrailingZeros",
        "java/lang/IndexOutOfBoundsException.<init>", "java/lang/IllegalArgumentException.<init>",
        "java/lang/ArithmeticException.<init>", "java/lang/IllegalStateException.<init>", "java/util/NoSuchElementException.<init>");
    private static final Pattern COUNTED = Pattern.compile(
        "\\s*for \\(int (\\w+) = [^;]+; ([^;]+); (\\w+)(\\+\\+|--| \\+= \\d+| -= \\d+)\\) \\{");
    private static final Pattern WHILE = Pattern.compile("\\s*while \\((.+)\\) \\{");
    private static final String[] FACE = {
        "int put(int,long) P", "int longer(int,long) PS", "int copy(int,int) P", "long part(int,int) PA",
        "int tells(int,char) PA", "int exact(int) PN", "int compare(int,int) P", "int does(char,int,int,int) PANS",
        "int alone(char,int,int) PANS", "int shifts(int,int,int) PAS", "boolean bit(int,int) PA",
        "int setBit(int,int,char) PA", "int power(int,int,int) PAS", "int divides(int,int,int,int) PANS",
        "int type(char) AS", "int erase() ", "char signAt(int) P", "int read(int,int) PAS", "int write(int,int) PA",
        "int push(int) AS", "int clearRow() ", "int fromRow(int) PS", "int toRow(int) P", "int byteAt(int) P",
        "int modPower(int,int,int,int) PN", "int inverse(int,int,int) PN", "int symbol(int,int) PN", "int units(int) PN",
        "int order(int,int) PN", "int generator(int) PN", "boolean isPrime(int) PN", "int modRoot(int,int,int) PNE",
        "int condition(int,int) PNS", "boolean solve(int,int) PAS", "int forget() ", "int root(int,int,int) PAN",
        "int perfect(int) PN", "float share(int) PN", "double meanLength() ", "long checksum() ",
        "boolean isTrue(int,int,int) P"};
    private static final String[] FORBIDDEN = {"->", "::", "\\bfinally\\b", "\\bassert\\b", "\\bsynchronized\\b", "\\btry\\b",
        "\\bcatch\\b", "Exact\\b", "\\bstatic \\{", "\\bNaN\\b", "\\bvar\\b", "\\bequals\\b", "\\bhashCode\\b", "\\btoString\\b",
        "\\bBigInteger\\b", "\\bRandom\\b", "\\bSystem\\.(?!arraycopy)", "\" \\+|\\+ \"", "\\bThread\\b"};

    public static void main(String[] args) throws IOException {
        face();
        documentsFace();
        classes();
        source();
        loops();
        calls();
        Check.finish();
    }

    private static String told(Method method) {
        StringBuilder told = new StringBuilder(method.getReturnType().getSimpleName() + ' ' + method.getName() + '(');
        for (Class<?> parameter : method.getParameterTypes()) {
            told.append(told.charAt(told.length() - 1) == '(' ? "" : ",").append(parameter.getSimpleName());
        }
        told.append(") ");
        for (Class<?> thrown : method.getExceptionTypes()) {
            String name = thrown.getSimpleName();
            told.append(name.startsWith("Ind") ? 'P' : name.startsWith("IllegalA") ? 'A' : name.startsWith("Ar") ? 'N'
                : name.startsWith("IllegalS") ? 'S' : 'E');
        }
        return told.toString();
    }

    private static void face() {
        Set<String> open = new TreeSet<>();
        Set<String> openNames = new TreeSet<>();
        for (Method method : Residueworks.class.getDeclaredMethods()) {
            if (!Modifier.isPrivate(method.getModifiers())) {
                open.add(told(method));
                openNames.add(method.getName());
            }
        }
        Check.same("the face", new TreeSet<>(List.of(FACE)), open);
        Check.same("the class", Modifier.PUBLIC | Modifier.FINAL, Residueworks.class.getModifiers());
        Constructor<?>[] constructors = Residueworks.class.getDeclaredConstructors();
        Check.same("constructors", 1, constructors.length);
        Check.same("the constructor", Modifier.PUBLIC, constructors[0].getModifiers());
        List<Class<?>> all = new ArrayList<>(List.of(Residueworks.class.getDeclaredClasses()));
        all.add(Residueworks.class);
        for (Class<?> one : all) {
            for (Method method : one.getDeclaredMethods()) {
                boolean ofFace = one == Residueworks.class && Modifier.isPublic(method.getModifiers());
                Check.same(one.getName() + "." + method.getName() + " bears a name of the face", false,
                    !ofFace && openNames.contains(method.getName()));
            }
        }
    }

    /** The document's code block, line by line, with the names of the parameters; and nothing else that is public. */
    private static void documentsFace() throws IOException {
        String document = Files.readString(Path.of(DOCUMENT));
        String block = document.substring(document.indexOf("```java") + 7);
        block = block.substring(0, block.indexOf("```"));
        String source = Files.readString(Path.of(SOURCE)).replaceAll("\\s+", " ");
        int members = 0;
        for (String line : block.split("\n")) {
            String member = line.strip();
            if (member.startsWith("public ") && member.endsWith(";")) {
                members++;
                member = member.substring(0, member.length() - 1) + " {";
                Check.same("the program has " + member, true, source.contains(" " + member));
            }
        }
        Check.same("members of the document's face", FACE.length + 1, members);
        Check.same("what is public, the class too", members + 1, source.split("\\bpublic\\b").length - 1);
        Check.same("what is protected", false, source.contains("protected "));
    }

    private static void classes() {
        Check.same("at most 12 classes", true, Residueworks.class.getDeclaredClasses().length + 1 <= 12);
        List<Class<?>> all = new ArrayList<>(List.of(Residueworks.class.getDeclaredClasses()));
        all.add(Residueworks.class);
        for (Class<?> one : all) {
            int fields = 0;
            for (Field field : one.getDeclaredFields()) {
                boolean fixed = Modifier.isStatic(field.getModifiers());
                Check.same(field + " is final", true, !fixed || Modifier.isFinal(field.getModifiers()));
                Check.same(field + " is closed", true, one != Residueworks.class || Modifier.isPrivate(field.getModifiers()));
                fields += fixed ? 0 : 1;
            }
            Check.same(one + " has at most 20 fields", true, fields <= 20);
            Check.same(one + " is static", true, one == Residueworks.class || Modifier.isStatic(one.getModifiers()));
            for (Method method : one.getDeclaredMethods()) {
                Check.same(method + " takes at most 7", true, method.getParameterCount() <= 7);
            }
        }
    }

    private static void source() throws IOException {
        List<String> lines = Files.readAllLines(Path.of(SOURCE));
        Set<String> imports = new TreeSet<>();
        int start = 0;
        for (int i = 0; i < lines.size(); i++) {
            String line = lines.get(i);
            String code = line.strip().startsWith("*") || line.strip().startsWith("/*") ? "" : line.replaceAll("//.*", "");
            if (line.startsWith("import ")) {
                imports.add(line);
            }
            for (String forbidden : FORBIDDEN) {
                Check.same("line " + (i + 1) + " has " + forbidden, false, Pattern.compile(forbidden).matcher(code).find());
            }
            Check.same("line " + (i + 1) + " is of signs 32 to 126", true, line.chars().allMatch(sign -> sign >= 32 && sign <= 126));
            Check.same("line " + (i + 1) + " throws as rule 6 has it", true, !code.contains("throw ")
                || code.matches("\\s*throw new \\w+\\(\"[^\"]*\"\\);"));
            boolean makes = code.matches(".*\\bnew\\b.*") && !code.contains("throw new");
            Check.same("line " + (i + 1) + " makes an object in a call", false, makes && !code.matches(
                "\\s*(private )?final [\\w\\[\\]]+ \\w+ = new .*|\\s*(registers|rests|moduli)\\[i\\] = new Whole\\(\\);"));
            start = code.matches("(    |        )[^ ].*\\{\\s*") && !code.contains("class ") ? i : start;
            boolean end = code.matches("(    |        )\\}\\s*");
            Check.same("the method to line " + (i + 1) + " is short", true, !end || i - start <= 60);
        }
        Check.same("imports", new TreeSet<>(List.of("import java.util.Arrays;", "import java.util.NoSuchElementException;")), imports);
    }

    /** Rule 9: each loop has a counter, a bound that the counter goes to, and a body that leaves both alone. */
    private static void loops() throws IOException {
        List<String> lines = Files.readAllLines(Path.of(SOURCE));
        int loops = 0;
        for (int i = 0; i < lines.size(); i++) {
            if (lines.get(i).matches("\\s*(for|while|do)\\b.*")) {
                loops++;
                String indent = lines.get(i).replaceAll("\\S.*", "");
                int end = i;
                while (!lines.get(end).equals(indent + "}")) {
                    end++;
                }
                String body = String.join("\n", lines.subList(i + 1, end));
                Check.same("the end of the loop in line " + (i + 1) + " is seen", true, ends(lines.get(i), body));
            }
        }
        Check.same("loops were found", true, loops > 40);
    }

    private static boolean ends(String head, String body) {
        Matcher counted = COUNTED.matcher(head);
        if (counted.matches()) {
            String counter = counted.group(1);
            boolean up = counted.group(4).contains("+");
            return counter.equals(counted.group(3)) && !assigns(body, counter) && hasBound(counted.group(2), counter, up, body);
        }
        Matcher other = WHILE.matcher(head);
        if (!other.matches()) {
            return false;
        }
        Matcher step = Pattern.compile("(?m)^\\s*(\\w+)(\\+\\+|--);$").matcher(body);
        return step.find() && hasBound(other.group(1), step.group(1), step.group(2).equals("++"), body);
    }

    private static boolean assigns(String body, String name) {
        return Pattern.compile("\\b" + name + "( [-+*/%&|^]?= |\\+\\+|--)").matcher(body).find();
    }

    private static boolean hasBound(String condition, String counter, boolean up, String body) {
        for (String part : condition.split(" && ")) {
            Matcher bound = Pattern.compile("(\\w+) (<|<=|>|>=) ([\\w.]+)").matcher(part);
            boolean whole = bound.matches();
            if (whole && bound.group(1).equals(counter) && bound.group(2).startsWith(up ? "<" : ">")) {
                return !assigns(body, bound.group(3));
            }
            // A place that goes down to another one, which may go up to it.
            if (whole && !up && bound.group(3).equals(counter) && bound.group(2).equals("<")) {
                return !Pattern.compile("\\b" + bound.group(1) + "( [-+*/%&|^]?= |--)").matcher(body).find();
            }
        }
        return false;
    }

    /** Calls go at most eight deep, and to what rule 4 lists alone. */
    private static void calls() {
        Map<String, Set<String>> calls = new HashMap<>();
        List<Class<?>> all = new ArrayList<>(List.of(Residueworks.class.getDeclaredClasses()));
        all.add(Residueworks.class);
        for (Class<?> one : all) {
            addCalls(one.getName(), calls);
        }
        int deepest = 0;
        for (String method : calls.keySet()) {
            deepest = Math.max(deepest, depthOf(method, calls, 0));
        }
        for (Set<String> callees : calls.values()) {
            for (String callee : callees) {
                Check.same(callee + " may be called", true, calls.containsKey(callee) || LIBRARY.contains(callee));
            }
        }
        Check.same("calls go at most eight deep, but go " + deepest, true, deepest > 3 && deepest <= 8);
    }

    private static void addCalls(String name, Map<String, Set<String>> calls) {
        StringWriter out = new StringWriter();
        ToolProvider javap = ToolProvider.findFirst("javap").orElseThrow();
        String path = System.getProperty("java.class.path");
        javap.run(new PrintWriter(out), new PrintWriter(out), "-c", "-p", "-cp", path, name);
        Pattern head = Pattern.compile("  (?:[\\w.\\[\\]$]+ )*([\\w$.]+)\\(.*\\)(?: throws .*)?;");
        Pattern call = Pattern.compile("// (?:Interface)?Method (?:([\\w/$]+)\\.)?\"?(<?\\w+>?)\"?:");
        String current = name;
        for (String line : out.toString().split("\n")) {
            Matcher heads = head.matcher(line);
            Matcher callee = call.matcher(line);
            if (heads.matches()) {
                current = name + '.' + (heads.group(1).equals(name) ? "<init>" : heads.group(1));
                calls.computeIfAbsent(current, key -> new LinkedHashSet<>());
            } else if (callee.find()) {
                String of = callee.group(1) == null ? name : callee.group(1);
                calls.computeIfAbsent(current, key -> new LinkedHashSet<>()).add(of + '.' + callee.group(2));
            }
        }
    }

    private static int depthOf(String method, Map<String, Set<String>> calls, int above) {
        int deepest = 1;
        if (above > 40) {
            return 1000;
        }
        for (String callee : calls.getOrDefault(method, Set.of())) {
            deepest = Math.max(deepest, 1 + depthOf(callee, calls, above + 1));
        }
        return deepest;
    }
}
