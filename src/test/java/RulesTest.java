import java.io.IOException;
import java.nio.file.Files;
import java.nio.file.Path;
import java.util.List;
import java.util.regex.Matcher;
import java.util.regex.Pattern;

/** What can be seen of ../shared/LANGUAGE.md in the text of the class alone. */
public final class RulesTest {
    private static final Path SOURCE = Path.of("src/main/java/Polymorphium.java");
    /** What the rules leave out, as expressions over lines without comments and texts. */
    private static final String[] LEFT_OUT = {
        "^import ", "^package ", "\\bcatch\\b", "\\bfinally\\b", "\\btry\\b", "->", "::", "\\bassert\\b",
        "\\bsynchronized\\b", "\\binstanceof\\b", "^\\s*static \\{", "\\bthrow (?!new )", "Exact\\(",
        // A divisor is a number that is written out.
        "[/%] *+(?![0-9])",
        // Static fields are final.
        "^\\s*(private )?static (?!final|\\w+(<\\w+>)?(\\[\\])* \\w+\\()",
    };

    private static final Pattern INDEXED = Pattern.compile("(?<!new )\\b(\\w+)\\[\\w");

    private static int wrong = 0;

    public static void main(String[] args) throws IOException {
        List<String> lines = Files.readAllLines(SOURCE);
        int methodFrom = -1;
        int classes = 0;
        for (int i = 0; i < lines.size(); i++) {
            String line = lines.get(i);
            check(line.length() <= 120, i, "is too long");
            check(line.chars().allMatch(c -> c >= 32 && c < 127), i, "has a sign that is none of 32 to 126");
            String bare = line.replaceAll("\"[^\"]*\"", "\"\"").replaceAll("'[^']'", "' '")
                    .replaceAll("//.*|^\\s*/?\\*.*", "");
            for (String leftOut : LEFT_OUT) {
                check(!Pattern.compile(leftOut).matcher(bare).find(), i, "has " + leftOut);
            }
            Matcher indexed = INDEXED.matcher(bare);
            while (indexed.find()) {
                String bounds = (i > 0 ? lines.get(i - 1) : "") + bare;
                check(bounds.contains(" < " + indexed.group(1) + ".length"), i, "uses an index without its bound");
            }
            classes += bare.matches(".*\\b(class|interface|enum|record) \\w+.*\\{") ? 1 : 0;
            boolean isStatement = bare.matches(".*\\b(if|for|while|switch|return|else)\\b.*");
            if (bare.matches("\\s+[\\w \\[\\]<>]+\\([^;]*") && !isStatement) {
                methodFrom = i;
            }
            if (bare.matches(" {4,8}}") && methodFrom >= 0) {
                check(i - methodFrom <= 60, i, "ends a method of over 60 lines");
                methodFrom = -1;
            }
        }
        check(classes <= 12, 0, "is in a file of " + classes + " classes");
        System.out.println(lines.size() + " lines, " + wrong + " of them against the rules");
        if (wrong != 0) {
            System.exit(1);
        }
    }

    private static void check(boolean good, int line, String what) {
        if (!good) {
            wrong++;
            System.out.println("line " + (line + 1) + " " + what);
        }
    }
}
