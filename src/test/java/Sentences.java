import java.io.IOException;
import java.nio.file.Files;
import java.nio.file.Path;
import java.util.ArrayList;
import java.util.List;

/**
 * One sentence of the document, one test. The sentence is quoted as the document has it, so that none is tested that
 * does not stand there; and of each promise all lines that begin with "Throws" must have been told.
 */
final class Sentences {
    /** The part of a sentence that stands in no promise, but ahead of them. */
    static final int DESCRIPTION = 0;

    private static final Path DOCUMENT = Path.of("../shared/DOC.md");
    private static final int PROMISES = 23;
    private static final List<String> TOLD = new ArrayList<>();

    private Sentences() {
    }

    static void tell(int promise, String quote, Runnable test) {
        String sentence = promise + ": " + quote;
        Checks.same(sentence + ": told once", "false", "" + TOLD.contains(sentence));
        TOLD.add(sentence);
        Checks.beginSentence(sentence);
        test.run();
        Checks.endSentence();
    }

    static void areThoseOfTheDocument() throws IOException {
        if (!Files.isReadable(DOCUMENT)) {
            System.out.println("the document is not here: the quotes were not looked at");
            return;
        }
        String[] parts = parts(Files.readString(DOCUMENT));
        for (String sentence : TOLD) {
            int colon = sentence.indexOf(':');
            String part = parts[Integer.parseInt(sentence.substring(0, colon))];
            boolean stands = part.contains(sentence.substring(colon + 2));
            Checks.same("the document says so: " + sentence, "true", "" + stands);
        }
        for (int promise = 1; promise <= PROMISES; promise++) {
            areAllThrowsTold(promise, parts[promise]);
        }
    }

    private static void areAllThrowsTold(int promise, String part) {
        boolean isAnyTold = false;
        for (String sentence : TOLD) {
            isAnyTold |= sentence.startsWith(promise + ": ");
        }
        Checks.same("promise " + promise + " has a sentence that is told", "true", "" + isAnyTold);
        for (String line : part.split("\n")) {
            if (line.startsWith("Throws ")) {
                Checks.same(promise + " is told: " + line, "true", "" + TOLD.contains(promise + ": " + line));
            }
        }
    }

    private static String[] parts(String document) {
        String[] parts = new String[PROMISES + 1];
        int begin = document.indexOf("## What it is");
        for (int promise = 0; promise <= PROMISES; promise++) {
            String next = promise < PROMISES ? "## Promise " + (promise + 1) + ":" : "## Not promised";
            int end = document.indexOf(next);
            parts[promise] = document.substring(begin, end);
            begin = end;
        }
        return parts;
    }
}
