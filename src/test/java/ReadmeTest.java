import java.io.IOException;
import java.lang.reflect.InvocationTargetException;
import java.net.URL;
import java.net.URLClassLoader;
import java.nio.file.Files;
import java.nio.file.Path;
import java.util.ArrayList;
import java.util.List;
import java.util.regex.Matcher;
import java.util.regex.Pattern;
import javax.tools.ToolProvider;

/** Compiles the Java that README.md shows, and compares what its calls answer with what is shown behind them. */
public final class ReadmeTest extends Checks {
    private static final Path README = Path.of("README.md");
    private static final Pattern SHOWN =
            Pattern.compile("(int \\w+ = )?(.*); +// (?:throws (\\w+)|(NONE)|(-?\\d+|true|false))(?::.*)?");

    private ReadmeTest() { }

    public static void main(String[] args) throws IOException, ReflectiveOperationException {
        StringBuilder members = new StringBuilder();
        StringBuilder statements = new StringBuilder();
        boolean isJava = false;
        boolean isMember = false;
        for (String line : Files.readAllLines(README)) {
            if (line.startsWith("```")) {
                isJava = line.equals("```java");
                isMember = false;
            } else if (isJava) {
                isMember |= line.startsWith("static ");
                (isMember ? members : statements).append(isMember ? line : statement(line)).append('\n');
            }
        }
        List<Object[]> rows = played("import java.util.List;\npublic final class Shown {\n" + members
                + "public static void play(List<Object[]> rows) {\n" + statements + "}\n}\n");
        for (Object[] row : rows) {
            due(String.valueOf(row[0]), row[1], row[2]);
        }
        due("many calls are shown", rows.size() > 30, true);
        end();
    }

    /** A line of the README that notes the call, its answer and the one that is shown. */
    private static String statement(String line) {
        Matcher matcher = SHOWN.matcher(line);
        if (!matcher.matches()) {
            due("it needs no answer: " + line, line.contains("new Polymorphium()"), true);
            return line;
        }
        String call = matcher.group(2);
        String row = "rows.add(new Object[] {\"" + call.replace("\"", "\\\"") + "\", ";
        if (matcher.group(3) != null) {
            return "try { " + row + call + ", \"throws\"}); } catch (RuntimeException e) { "
                    + row + "e.getClass(), " + matcher.group(3) + ".class}); }";
        }
        String want = matcher.group(4) != null ? "Polymorphium.NONE" : matcher.group(5);
        if (matcher.group(1) == null) {
            return row + call + ", " + want + "});";
        }
        String name = matcher.group(1).split(" ")[1];
        return matcher.group(1) + call + "; " + row + name + ", " + want + "});";
    }

    private static List<Object[]> played(String text) throws IOException, ReflectiveOperationException {
        List<Object[]> rows = new ArrayList<>();
        Path folder = Files.createTempDirectory("shown");
        Path source = folder.resolve("Shown.java");
        Files.writeString(source, text);
        int ended = ToolProvider.getSystemJavaCompiler().run(null, null, null, "-cp",
                System.getProperty("java.class.path"), "-d", folder.toString(), source.toString());
        due("the compiler ends with", ended, 0);
        if (ended == 0) {
            try (URLClassLoader loader = new URLClassLoader(new URL[] {folder.toUri().toURL()})) {
                loader.loadClass("Shown").getMethod("play", List.class).invoke(null, rows);
            } catch (InvocationTargetException e) {
                due("the call behind these " + rows.size(), e.getCause(), "an answer");
            }
        }
        Files.deleteIfExists(folder.resolve("Shown.class"));
        Files.deleteIfExists(source);
        Files.deleteIfExists(folder);
        return rows;
    }
}
