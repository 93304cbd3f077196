import java.io.IOException;
import java.io.UncheckedIOException;
import java.nio.file.Files;
import java.nio.file.Path;
import java.util.ArrayList;
import java.util.LinkedHashMap;
import java.util.List;
import java.util.Map;
import java.util.Set;

/** The tests of single sentences against the document: their words stand there, and no sentence is passed over. */
final class DocumentTests {
    private static final Path DOCUMENT = Path.of("../shared/DOC.md");
    private static final Set<String> SECTIONS_WITHOUT = Set.of("The public face", "Not promised");

    /** Sentences that name no boundary case; what they ask for is tested with those around them. */
    private static final Set<String> SENTENCES_WITHOUT = Set.of(
            "Tunnel lamps that are moved forward as miners dig past them: galleries that grow cell by cell through rock of"
                    + " unlike hardness, miners who dig as long as they see, lamps by their reach and their oil, a lad with"
                    + " a row of orders who walks, carries lamps and fetches oil from the mouth, a lad who knows by himself"
                    + " where it is dark, accounts of oil that add up.",
            "what later calls answer is free.",
            "It tells what is lit, in two ways that must agree, when a gallery is dark, how far it will be dug, where a lamp"
                    + " is hung best, what the lad is about and when he is done, why an order cannot be given.",
            "Changes can be undone.", "An order is:", "Then:", "IllegalStateException means what the method says.",
            "Returns that number.", "Returns a number.", "Returns a number of a gallery.", "Returns a number of a miner.",
            "Returns a number of a lamp.", "Returns a number of the lad.", "Returns a number of an order.",
            "Tells which cells of a gallery are lit.", "Adds a gallery.", "Adds a miner.", "Adds a lamp, which hangs.",
            "Brings oil to the store.", "Changes a setting.", "Lets hours go by.",
            "Tells when the face of a gallery is dark.", "Tells how far a gallery is dug.",
            "Tells when the lad has done his orders.", "Finds the best cell for a lamp.",
            "Tells how many steps it is from one cell to another one.");

    private DocumentTests() { }

    static void addTo(List<Check.Test> tests) {
        List<Check.Test> sentences = new ArrayList<>();
        for (Check.Test test : tests) {
            if (!test.words().isEmpty()) {
                sentences.add(test);
            }
        }
        tests.add(new Check.Test("the document has the words of every test", () -> everyWordIsThere(sentences)));
        tests.add(new Check.Test("every sentence of the document has a test", () -> everySentenceIsTested(sentences)));
    }

    private static void everyWordIsThere(List<Check.Test> tests) {
        Map<String, List<String>> sections = sections();
        for (Check.Test test : tests) {
            String section = String.join(" ", sections.getOrDefault(test.section(), List.of()));
            int from = 0;
            for (String part : test.words().split(" \\.\\. ")) {
                from = section.indexOf(part, from);
                if (from < 0) {
                    throw new AssertionError(test.section() + " does not have the words: " + part);
                }
            }
        }
    }

    private static void everySentenceIsTested(List<Check.Test> tests) {
        StringBuilder missing = new StringBuilder();
        for (Map.Entry<String, List<String>> section : sections().entrySet()) {
            for (String paragraph : section.getValue()) {
                for (String sentence : paragraph.split("(?<=[.;]) ")) {
                    if (!namesNoBoundary(section.getKey(), sentence) && !isTested(section.getKey(), sentence, tests)) {
                        missing.append('\n').append(section.getKey()).append(": ").append(sentence);
                    }
                }
            }
        }
        Check.same("sentences without a test", "", missing.toString());
    }

    /** Sentences like "g: gallery", and those that only head a part of the face, are none either. */
    private static boolean namesNoBoundary(String section, String sentence) {
        return SECTIONS_WITHOUT.contains(section) || SENTENCES_WITHOUT.contains(sentence)
                || sentence.matches("\\w+: \\w+") || sentence.startsWith("Ahead of the calls ");
    }

    private static boolean isTested(String section, String sentence, List<Check.Test> tests) {
        for (Check.Test test : tests) {
            if (test.section().equals(section)) {
                for (String part : test.words().split(" \\.\\. ")) {
                    if (sentence.contains(part) || part.contains(sentence)) {
                        return true;
                    }
                }
            }
        }
        return false;
    }

    /** The paragraphs of each section; a term that is written in capitals alone heads a section too. */
    private static Map<String, List<String>> sections() {
        Map<String, List<String>> sections = new LinkedHashMap<>();
        List<String> paragraphs = new ArrayList<>();
        boolean goesOn = false;
        for (String line : lines()) {
            boolean isHead = line.startsWith("## ") || line.matches("[A-Z][A-Z, ]+");
            boolean isItem = line.matches("(- |\\d\\. ).*");
            if (isHead) {
                String name = line.replaceAll("^## ", "").replaceAll("^(Promise \\d+):.*", "$1");
                paragraphs = sections.computeIfAbsent(name, head -> new ArrayList<>());
            } else if (!line.isBlank() && goesOn && !isItem) {
                paragraphs.set(paragraphs.size() - 1, paragraphs.get(paragraphs.size() - 1) + " " + plain(line));
            } else if (!line.isBlank()) {
                paragraphs.add(plain(line));
            }
            goesOn = !isHead && !line.isBlank();
        }
        return sections;
    }

    /** Without marks, and without the method's own line before what the document says of it. */
    private static String plain(String line) {
        return line.replaceAll("^`[^`]*\\)[^`]*`: ", "").replace("`", "").replaceAll("^(- |\\d\\. )", "").trim();
    }

    private static List<String> lines() {
        try {
            return Files.readAllLines(DOCUMENT);
        } catch (IOException fault) {
            throw new UncheckedIOException(fault);
        }
    }
}
