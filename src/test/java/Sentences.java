import java.io.IOException;
import java.nio.file.DirectoryStream;
import java.nio.file.Files;
import java.nio.file.Path;
import java.util.regex.Matcher;
import java.util.regex.Pattern;

/**
 * Prints which sentences of ../shared/DOC.md no test names, and which ones a test names that do not stand there.
 * It is run by hand, in the project's folder, when the document or the tests have changed; it is no test.
 */
public final class Sentences {
    private static final String LITERAL = "\"((?:[^\"\\\\]|\\\\.)*)\"";
    private static final Pattern NAMED = Pattern.compile(
            "(?:sentence|range)\\((\\d+), (" + LITERAL + "(?:\\s*\\+ " + LITERAL + ")*)");

    /** The text of the terms, and behind it that of each promise. */
    private final String[] parts = new String[28];
    private final String[] left = new String[28];

    public static void main(String[] args) throws IOException {
        Sentences sentences = new Sentences(Files.readString(Path.of("../shared/DOC.md")));
        try (DirectoryStream<Path> tests = Files.newDirectoryStream(Path.of("src/test/java"), "*Test.java")) {
            for (Path test : tests) {
                sentences.take(test.getFileName().toString(), Files.readString(test));
            }
        }
        sentences.tellWhatIsLeft();
    }

    private Sentences(String document) {
        String terms = document.substring(document.indexOf("## Terms"));
        for (int promise = 0; promise < parts.length; promise++) {
            int next = terms.indexOf(promise < 27 ? "## Promise " + (promise + 1) + ":" : "## Not promised");
            parts[promise] = terms.substring(0, next).replaceAll("\\s+", " ");
            left[promise] = parts[promise];
            terms = terms.substring(next);
        }
    }

    private void take(String test, String code) {
        Matcher named = NAMED.matcher(code);
        while (named.find()) {
            int promise = Integer.parseInt(named.group(1));
            StringBuilder words = new StringBuilder();
            Matcher piece = Pattern.compile(LITERAL).matcher(named.group(2));
            while (piece.find()) {
                words.append(piece.group(1).replace("\\\"", "\""));
            }
            if (!parts[promise].contains(words)) {
                System.out.println(test + " names what does not stand in " + promise + ": " + words);
            }
            left[promise] = left[promise].replace(words, "|");
        }
    }

    private void tellWhatIsLeft() {
        for (int promise = 0; promise < left.length; promise++) {
            System.out.println(left[promise]);
        }
    }
}
