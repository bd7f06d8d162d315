import java.io.IOException;
import java.io.UncheckedIOException;
import java.nio.file.Files;
import java.nio.file.Path;
import java.util.ArrayList;
import java.util.List;
import java.util.Map;
import java.util.Set;
import java.util.TreeMap;
import java.util.TreeSet;

/**
 * The sentences of the document, by promise (0 for the terms, -1 for "What it is"), and which of them the
 * tests quote.
 */
final class Document {
    /** What no call can show, and what other sentences say in detail. */
    private static final Set<String> IDLE = Set.of(
            "A ballet on a stage of cells.",
            "Dancers stand on different cells, perform figures, which their partners mirror, wear their nails "
                    + "down, walk around props, and leave through exits.",
            "The class computes distances, the cheapest way to leave, connected areas and mirrored formations "
                    + "in two ways each, and executes programs.",
            "This class is not thread-safe.",
            "A program is a text with the following grammar, in which braces mean zero or more repetitions, "
                    + "brackets mean an optional part, and a vertical bar separates alternatives.");

    private static final int NO_PROMISE = -2;

    private static final Map<Integer, Set<String>> SENTENCES = sentences();
    private static final Map<Integer, Set<String>> QUOTED = new TreeMap<>();

    private Document() {
    }

    /** Notes that a test is about the one sentence of a promise that has these words. */
    static void quote(int promise, String words) {
        List<String> found = new ArrayList<>();
        for (String sentence : SENTENCES.getOrDefault(promise, Set.of())) {
            if (sentence.contains(words)) {
                found.add(sentence);
            }
        }
        Check.same("sentences of promise " + promise + " with \"" + words + "\"", "1",
                String.valueOf(found.size()));
        QUOTED.computeIfAbsent(promise, key -> new TreeSet<>()).addAll(found);
    }

    static void everySentenceIsQuoted() {
        Check.same("number of promises, the terms and what it is", "56", String.valueOf(SENTENCES.size()));
        for (int promise : SENTENCES.keySet()) {
            for (String sentence : SENTENCES.get(promise)) {
                boolean quoted = QUOTED.getOrDefault(promise, Set.of()).contains(sentence);
                Check.same("promise " + promise + " has a test for: " + sentence, "true",
                        String.valueOf(quoted));
            }
        }
    }

    private static Map<Integer, Set<String>> sentences() {
        Map<Integer, Set<String>> result = new TreeMap<>();
        try {
            int promise = NO_PROMISE;
            for (String line : Files.readAllLines(Path.of("../shared/DOC.md"))) {
                if (line.startsWith("## ")) {
                    promise = promiseOf(line);
                } else if (promise != NO_PROMISE) {
                    addSentences(line, result.computeIfAbsent(promise, key -> new TreeSet<>()));
                }
            }
        } catch (IOException e) {
            throw new UncheckedIOException(e);
        }
        return result;
    }

    private static int promiseOf(String heading) {
        if (heading.equals("## What it is")) {
            return Sentence.WHAT_IT_IS;
        }
        if (heading.equals("## Terms")) {
            return Sentence.TERMS;
        }
        return heading.startsWith("## Promise ")
                ? Integer.parseInt(heading.substring(11, heading.indexOf(':'))) : NO_PROMISE;
    }

    private static void addSentences(String line, Set<String> sentences) {
        // Only the lines of arguments that name a bound are sentences to be tested.
        boolean boundless = line.startsWith("- ") && !line.matches(".*(\\d|one of).*");
        if (boundless || line.startsWith("Ahead of the calls ")) {
            return;
        }
        String text = line.replaceFirst("^`[^`]*\\)[^`]*`: ", "");
        for (String sentence : text.split("(?<=\\.) ")) {
            // "Stage." and its like are headings.
            boolean heading = sentence.matches("[A-Z][a-z]+( formations)?\\.");
            if (!sentence.isBlank() && !heading && !IDLE.contains(sentence)) {
                sentences.add(sentence.trim());
            }
        }
    }
}
