import java.io.IOException;
import java.nio.file.Files;
import java.nio.file.Path;

/** Counts what the tests of one run find, and ends it with exit code 1 if anything was wrong. */
final class Check {
    private static final Path DOCUMENT = Path.of("../shared/DOC.md");

    private static String document;
    private static String named = "";
    private static int sentences = 0;
    private static int answersBefore = 0;
    private static int right = 0;
    private static int wrong = 0;

    private Check() {
    }

    /**
     * What is checked from here on is what this sentence of the document says. The part is "Terms", "What it is",
     * "Promise 1" or the like; the words must stand in it as they are given, wherever the document can be read.
     */
    static void sentence(String part, String words) {
        endSentence();
        named = part + ": " + words;
        sentences++;
        if (!document().isEmpty() && !partOfDocument(part).contains(words)) {
            wrong++;
            System.out.println("the document does not say so: " + named);
        }
    }

    static void due(String call, long got, long want) {
        if (got == want) {
            right++;
        } else {
            wrong++;
            System.out.println((named.isEmpty() ? "" : "[" + named + "] ") + call + " answered " + got + ", due is " + want);
        }
    }

    /** REFUSED: NONE. */
    static void refused(String call, long got) {
        due(call, got, -1);
    }

    static void end(String test) {
        endSentence();
        String many = sentences == 0 ? "" : sentences + " sentences, ";
        System.out.println(test + ": " + many + right + " answers are as due, " + wrong + " are not");
        if (wrong != 0 || right == 0) {
            System.exit(1);
        }
    }

    private static void endSentence() {
        if (!named.isEmpty() && right + wrong == answersBefore) {
            wrong++;
            System.out.println("nothing was checked of " + named);
        }
        answersBefore = right + wrong;
    }

    private static String partOfDocument(String part) {
        String heading = " ## " + part;
        int start = document().indexOf(heading + (part.startsWith("Promise") ? ":" : " "));
        if (start < 0) {
            return "";
        }
        int end = document().indexOf(" ## ", start + heading.length());
        return end < 0 ? document().substring(start) : document().substring(start, end);
    }

    private static String document() {
        if (document == null) {
            document = readDocument();
        }
        return document;
    }

    private static String readDocument() {
        try {
            return " " + Files.readString(DOCUMENT).replaceAll("\\s+", " ");
        } catch (IOException e) {
            System.out.println("the words of the sentences are not looked up: " + e);
            return "";
        }
    }
}
