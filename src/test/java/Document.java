import java.io.IOException;
import java.nio.file.Files;
import java.nio.file.Path;
import java.util.ArrayList;
import java.util.List;

/**
 * The document's own words. What a test quotes must stand there, and no sentence may be left without a test that
 * quotes it; so that a document that changes is noticed here.
 */
final class Document {
    private static final Path PATH = Path.of("../shared/DOC.md");
    /** What tells of no call that could be tested. */
    private static final List<String> NOT_TESTED = List.of("A house of questions", "Ahead of the calls",
            "what later calls answer is free");

    private record Sentence(int promise, String words) { }

    private static final List<Sentence> SENTENCES = new ArrayList<>();
    private static final List<Sentence> QUOTED = new ArrayList<>();

    private Document() { }

    /** Notes that a test quotes some words of a promise; 0 stands for all that is told ahead of the promises. */
    static void quote(int promise, String words) {
        QUOTED.add(new Sentence(promise, words));
    }

    /** Quotes that do not stand in the document, and sentences that no test has quoted. */
    static List<String> differences() throws IOException {
        readSentences();
        List<String> differences = new ArrayList<>();
        for (Sentence quoted : QUOTED) {
            if (SENTENCES.stream().noneMatch(sentence -> holds(sentence, quoted))) {
                differences.add("not in the document: " + quoted);
            }
        }
        for (Sentence sentence : SENTENCES) {
            if (QUOTED.stream().noneMatch(quoted -> holds(sentence, quoted))) {
                differences.add("without a test: " + sentence);
            }
        }
        return differences;
    }

    private static boolean holds(Sentence sentence, Sentence quoted) {
        return sentence.promise == quoted.promise && sentence.words.contains(quoted.words);
    }

    private static void readSentences() throws IOException {
        int promise = 0;
        boolean isCode = false;
        for (String line : Files.readAllLines(PATH)) {
            if (line.startsWith("```")) {
                isCode = !isCode;
            } else if (line.matches("## Promise \\d+: .*")) {
                promise = Integer.parseInt(line.replaceAll("\\D", ""));
            } else if (line.startsWith("## Not promised")) {
                return;
            } else if (!isCode && !line.isEmpty() && !line.startsWith("#") && isTested(line)) {
                addSentences(promise, line);
            }
        }
    }

    /** Parts that semicolons divide count as sentences of their own; the form of a call stands before the first one. */
    private static void addSentences(int promise, String line) {
        String told = promise > 0 ? line.replaceFirst("^`[^`]*`: ", "") : line;
        for (String words : told.split("(?<=[.;]) ")) {
            // A heading within the terms has no stop.
            if ((promise > 0 || words.endsWith(".") || words.endsWith(";")) && isTested(words)) {
                SENTENCES.add(new Sentence(promise, words));
            }
        }
    }

    private static boolean isTested(String words) {
        return NOT_TESTED.stream().noneMatch(words::startsWith);
    }
}
