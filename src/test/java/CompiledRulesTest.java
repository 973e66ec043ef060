import java.io.PrintWriter;
import java.io.StringWriter;
import java.net.URISyntaxException;
import java.nio.file.Files;
import java.nio.file.Path;
import java.util.ArrayList;
import java.util.HashSet;
import java.util.LinkedHashMap;
import java.util.List;
import java.util.Map;
import java.util.Set;
import java.util.regex.Matcher;
import java.util.regex.Pattern;
import java.util.spi.ToolProvider;
import java.util.stream.Stream;

/** What can be seen of ../shared/LANGUAGE.md in what the compiler makes of the class: its calls and what it uses. */
public final class CompiledRulesTest {
    private static final String FACE = "Polymorphium";
    private static final int MOST_DEEP = 8;
    private static final Pattern CALLED =
            Pattern.compile("invoke\\w+ .*// (?:Interface)?Method (?:([\\w/$]+)\\.)?\"?([\\w<>]+)\"?:(\\S+)$");
    /** What rule 4 and rule 6 leave of the library, as far as rule 4 lists it by name. */
    private static final Pattern IN_LIBRARY = Pattern.compile("java/lang/Object\\.<init>:\\(\\)V"
            + "|java/lang/(Integer|Long|Math)\\.(compare|max|min|abs|bitCount|floorDiv|floorMod):\\([IJ]+\\)[IJ]"
            + "|java/lang/System\\.arraycopy:.*"
            + "|java/util/Arrays\\.(copyOf|copyOfRange|fill):.*"
            + "|java/lang/(IllegalState|IllegalArgument|IndexOutOfBounds)Exception\\.<init>:"
            + "\\((Ljava/lang/String;)?\\)V");
    /** Instructions of what the rules leave out: lambdas and joined texts, casts, locks, static state. */
    private static final Pattern LEFT_OUT =
            Pattern.compile("\\d+: (invokedynamic|checkcast|monitorenter|putstatic|multianewarray)\\b");

    /** A method of one of the classes, and the instructions of it, as javap prints them. */
    private static final class Code {
        final String owner;
        final String name;
        final String head;
        final List<String> lines = new ArrayList<>();
        String key;

        Code(String owner, String name, String head) {
            this.owner = owner;
            this.name = name;
            this.head = head;
        }

        boolean isInit() {
            return name.equals("<init>");
        }
    }

    private static final Map<String, Code> CODES = new LinkedHashMap<>();
    private static final Map<String, Integer> FIELDS = new LinkedHashMap<>();
    private static int wrong = 0;

    private CompiledRulesTest() { }

    public static void main(String[] args) throws Exception {
        List<Path> classes = classes();
        for (Path path : classes) {
            read(printed(path));
        }
        check(classes.size() <= 12, classes.size() + " classes in the file");
        FIELDS.forEach((owner, fields) -> check(fields <= 20, owner + " has " + fields + " fields"));
        Set<String> calls = new HashSet<>();
        CODES.values().stream().filter(CompiledRulesTest::isCall).forEach(code -> calls.add(code.name));
        check(calls.size() == 31 - 1, calls.size() + " calls were found");
        for (Code code : CODES.values()) {
            looksAt(code, calls);
        }
        for (Code code : CODES.values()) {
            if (isCall(code)) {
                int deep = depth(code, new HashSet<>());
                check(deep <= MOST_DEEP, code.name + " goes " + deep + " calls deep");
            }
        }
        System.out.println(CODES.size() + " compiled methods, " + wrong + " faults of them against the rules");
        if (wrong != 0) {
            System.exit(1);
        }
    }

    private static void check(boolean good, String what) {
        if (!good) {
            wrong++;
            System.out.println(what);
        }
    }

    // ---- reading

    private static List<Path> classes() throws Exception {
        try (Stream<Path> files = Files.list(folder())) {
            return files.filter(path -> path.getFileName().toString().matches(FACE + "(\\$.*)?\\.class")).toList();
        }
    }

    private static Path folder() throws URISyntaxException {
        return Path.of(Polymorphium.class.getProtectionDomain().getCodeSource().getLocation().toURI());
    }

    private static List<String> printed(Path path) {
        ToolProvider javap = ToolProvider.findFirst("javap").orElseThrow();
        StringWriter text = new StringWriter();
        int ended = javap.run(new PrintWriter(text), new PrintWriter(text), "-p", "-c", "-s", path.toString());
        check(ended == 0, "javap ended with " + ended);
        return text.toString().lines().toList();
    }

    private static void read(List<String> lines) {
        String owner = "";
        Code code = null;
        for (String line : lines) {
            if (line.matches("\\S.*\\bclass .*\\{")) {
                owner = line.replaceAll(".*\\bclass (\\S+).*", "$1");
                FIELDS.put(owner, 0);
            } else if (line.matches("  \\S.*;") && line.contains("(")) {
                String name = line.replaceAll("\\(.*", "").replaceAll(".* ", "");
                code = new Code(owner, name.equals(owner) ? "<init>" : name, line.trim());
            } else if (line.matches("  \\S.*;") && !line.contains(" static final ")) {
                check(!line.contains(" static "), owner + " has static state: " + line.trim());
                FIELDS.merge(owner, 1, Integer::sum);
                code = null;
            } else if (line.startsWith("    descriptor: (") && code != null) {
                code.key = owner + "." + code.name + ":" + line.trim().split(" ")[1];
                CODES.put(code.key, code);
            } else if (line.contains(" static {}")) {
                check(false, owner + " has a static initialiser");
            } else if (code != null) {
                code.lines.add(line.trim());
            }
        }
    }

    private static boolean isCall(Code code) {
        return code.owner.equals(FACE) && code.head.startsWith("public ") && !code.isInit();
    }

    // ---- the rules

    private static void looksAt(Code code, Set<String> calls) {
        check(isCall(code) || !calls.contains(code.name), code.key + " has the name of a call of the face");
        String places = code.head.replaceAll(".*\\((.*)\\).*", "$1");
        check(places.split(",").length <= 7, code.key + " takes more than seven parameters");
        for (int i = 0; i < code.lines.size(); i++) {
            String line = code.lines.get(i);
            check(!line.equals("Exception table:"), code.key + " catches");
            check(!LEFT_OUT.matcher(line).find(), code.key + ": " + line);
            String before = i > 0 ? code.lines.get(i - 1) : "";
            if (line.endsWith(": athrow")) {
                boolean isNew = before.matches(".*Method java/lang/\\w+Exception\\.\"<init>\".*");
                check(isNew, code.key + " throws what is not new");
                check(isCall(code), code.key + " throws, and is no call of the face");
            }
            if (line.matches("\\d+: [il](div|rem)")) {
                boolean isNumber = before.matches("\\d+: ([il]const_[1-9]|[bs]ipush +[1-9]\\d*)");
                check(isNumber, code.key + " divides behind " + before);
            }
        }
        for (String called : calledBy(code)) {
            check(CODES.containsKey(called) || IN_LIBRARY.matcher(called).matches(), code.key + " calls " + called);
        }
    }

    private static Set<String> calledBy(Code code) {
        Set<String> called = new HashSet<>();
        for (String line : code.lines) {
            Matcher matcher = CALLED.matcher(line);
            if (matcher.find()) {
                String owner = matcher.group(1) == null ? code.owner : matcher.group(1);
                called.add(owner + "." + matcher.group(2) + ":" + matcher.group(3));
            } else {
                check(!line.contains(" invoke"), code.key + " calls in a way of its own: " + line);
            }
        }
        return called;
    }

    /** How many calls stand open at once, this one with them; recursion counts once, and is a private static one. */
    private static int depth(Code code, Set<String> open) {
        int deepest = 0;
        open.add(code.key);
        for (String called : calledBy(code)) {
            if (called.equals(code.key)) {
                check(code.head.startsWith("private static "), code.key + " calls itself");
            } else if (open.contains(called)) {
                check(false, code.key + " and " + called + " call one another");
            } else if (CODES.containsKey(called)) {
                deepest = Math.max(deepest, depth(CODES.get(called), open));
            }
        }
        open.remove(code.key);
        return deepest + 1;
    }
}
