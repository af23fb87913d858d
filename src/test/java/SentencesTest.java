import java.io.IOException;
import java.nio.file.DirectoryStream;
import java.nio.file.Files;
import java.nio.file.Path;
import java.util.Set;
import java.util.TreeSet;
import java.util.regex.Matcher;
import java.util.regex.Pattern;

/** Each word of the document that names a boundary stands in a sentence that a boundary test is of. */
final class SentencesTest {
    private static final Pattern SENTENCE = Pattern.compile("sentence\\((\\d+), \"([^\"]*)\"(?:\\s*\\+ \"([^\"]*)\")?\\)");
    private static final Pattern BOUNDARY = Pattern.compile("\\d[\\d,^]*|NONE|at most|or more|others?\\b|\\bnone|no such|nothing|empty|first\\b"
        + "|last\\b|least|once|twice|left out|beyond|wrap|not the same|never|within|[Ww]ithout|again|too\\b|stay|refused|all stays|false");

    public static void main(String[] args) throws IOException {
        String document = Checks.document();
        boolean[] quoted = new boolean[document.length()];
        Set<Integer> promises = new TreeSet<>();
        try (DirectoryStream<Path> files = Files.newDirectoryStream(Path.of("src/test/java"), "Bounds*Test.java")) {
            for (Path file : files) {
                Matcher found = SENTENCE.matcher(Files.readString(file));
                while (found.find()) {
                    promises.add(Integer.parseInt(found.group(1)));
                    mark(document, quoted, found.group(2) + (found.group(3) == null ? "" : found.group(3)));
                }
            }
        }
        for (int promise = 1; promise <= 26; promise++) {
            Checks.due("a boundary test of promise " + promise, promises.contains(promise), true);
        }
        uncovered(document, quoted);
        Checks.end();
    }

    private static void mark(String document, boolean[] quoted, String sentence) {
        Checks.due("in the document: " + sentence, document.isEmpty() || document.contains(sentence), true);
        for (int at = document.indexOf(sentence); at >= 0; at = document.indexOf(sentence, at + 1)) {
            for (int i = 0; i < sentence.length(); i++) {
                quoted[at + i] = true;
            }
        }
    }

    private static void uncovered(String document, boolean[] quoted) {
        int from = document.indexOf("An object is used");
        int to = document.indexOf("## Not promised");
        Matcher boundary = BOUNDARY.matcher(document);
        while (boundary.find()) {
            int at = boundary.start();
            boolean head = document.startsWith("==== ", at - 5) || document.startsWith("## Promise ", at - 11);
            if (at >= from && at < to && !head && !quoted[at]) {
                String around = document.substring(Math.max(0, at - 60), Math.min(document.length(), at + 60));
                Checks.due("a boundary test of '" + boundary.group() + "' in '" + around + "'", false, true);
            }
        }
    }
}
