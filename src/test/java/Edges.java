import java.io.IOException;
import java.nio.file.Files;
import java.nio.file.Path;
import java.util.ArrayList;
import java.util.List;

/**
 * Runs the tests of single sentences of the document. Each of them quotes its sentence: the quote must stand in the
 * document, in the head (0) or at that promise, and in the end no sentence may be left without a test.
 */
final class Edges {
    private static final int HEAD = 0;
    private static final int PROMISES = 28;
    private static final String DOCUMENT = readDocument();
    private static final List<List<String>> QUOTES = new ArrayList<>();

    static {
        for (int section = HEAD; section <= PROMISES; section++) {
            QUOTES.add(new ArrayList<>());
        }
    }

    private Edges() {
    }

    static void run() {
        TermsEdges.run();
        LandEdges.run();
        SleeperEdges.run();
        PassEdges.run();
        QueueEdges.run();
        YawnEdges.run();
        AppealEdges.run();
        HourEdges.run();
        RingEdges.run();
        WayEdges.run();
        AskedEdges.run();
        SoundnessTest.run();
        everySentenceHasATest();
    }

    static void of(int section, String quote, Runnable test) {
        Check.same("section " + section + " says: " + quote, textOf(section).contains(quote), true);
        int before = Check.passed + Check.failed;
        int failedBefore = Check.failed;
        test.run();
        Check.same("a test of: " + quote, Check.passed + Check.failed > before, true);
        if (Check.failed > failedBefore) {
            System.out.println("  so this does not hold (section " + section + "): " + quote);
        }
        QUOTES.get(section).add(quote);
    }

    private static void everySentenceHasATest() {
        for (String sentence : sentencesOfTheHead()) {
            Check.same("a test of the head's: " + sentence, isQuoted(HEAD, sentence), true);
        }
        for (int promise = 1; promise <= PROMISES; promise++) {
            for (String sentence : sentencesOf(promise)) {
                Check.same("a test of promise " + promise + ": " + sentence, isQuoted(promise, sentence), true);
            }
        }
    }

    private static boolean isQuoted(int section, String sentence) {
        for (String quote : QUOTES.get(section)) {
            if (sentence.contains(quote)) {
                return true;
            }
        }
        return false;
    }

    private static List<String> sentencesOfTheHead() {
        String head = textOf(HEAD);
        List<String> sentences = new ArrayList<>();
        for (String sentence : head.substring(head.indexOf("Terms ")).split("(?<=\\.\\)?) (?=[A-Z-])")) {
            if (!sentence.startsWith("Ahead of the calls")) {
                sentences.add(sentence);
            }
        }
        return sentences;
    }

    /** What a promise says of its answer and of what it refuses. */
    private static List<String> sentencesOf(int promise) {
        List<String> sentences = new ArrayList<>();
        for (String line : rawTextOf(promise).split("\n")) {
            if (line.startsWith("Returns ") || line.startsWith("Throws ")) {
                sentences.add(plain(line));
            }
        }
        return sentences;
    }

    private static String textOf(int section) {
        return plain(rawTextOf(section));
    }

    private static String rawTextOf(int section) {
        String end = section == PROMISES ? "\n## Not promised" : "\n## Promise " + (section + 1) + ":";
        int from = section == HEAD ? 0 : DOCUMENT.indexOf("\n## Promise " + section + ":");
        return DOCUMENT.substring(from, DOCUMENT.indexOf(end));
    }

    /** On one line, without marks and without the headings of the terms. */
    private static String plain(String text) {
        return text.replaceAll("(?m)^== .*$", "").replace("```text", "").replace("`", "").replaceAll("\\s+", " ");
    }

    private static String readDocument() {
        try {
            return Files.readString(Path.of("../shared/DOC.md"));
        } catch (IOException e) {
            throw new IllegalStateException("../shared/DOC.md can't be read", e);
        }
    }
}
