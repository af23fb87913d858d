import java.io.IOException;
import java.io.UncheckedIOException;
import java.nio.file.Files;
import java.nio.file.Path;
import java.util.Arrays;
import java.util.NoSuchElementException;

/** What the project's tests share: feeding a text, and comparing an answer with the one that is due. */
final class Checks {
    private static final Path DOCUMENT = Path.of("../shared/DOC.md");
    // None of these is a place, an end, a word, a mark or a what; some would be if they were shifted or multiplied.
    private static final int[] OUTSIDE = {Integer.MIN_VALUE, Integer.MIN_VALUE + 1, -32, -2, -1, 12, 13, 32, 64, 256, 65536, 178956971,
        357913942, 1 << 30, Integer.MAX_VALUE - 1, Integer.MAX_VALUE};

    private static int wrong = 0;
    private static String about = "";
    private static String document = "";

    private Checks() {
    }

    /** What is checked from here on is of a promise, and of a sentence that stands so in the document. */
    static void sentence(int promise, String words) {
        about = "promise " + promise + ", \"" + words + "\": ";
        due("the document has the sentence", document().isEmpty() || document().contains(words), true);
    }

    /** The document, each run of blanks and ends of lines as one blank; empty where it does not lie. */
    static String document() {
        if (document.isEmpty() && Files.exists(DOCUMENT)) {
            try {
                document = Files.readString(DOCUMENT).replaceAll("\\s+", " ");
            } catch (IOException e) {
                throw new UncheckedIOException(e);
            }
        }
        return document;
    }

    static void due(String call, long got, long want) {
        if (got != want) {
            wrong++;
            System.out.println(about + call + " answered " + got + ", due is " + want);
        }
    }

    /** What lies outside 0 to count less 1, the nearest ones among them. */
    static int[] outside(int count) {
        int[] all = Arrays.copyOf(OUTSIDE, OUTSIDE.length + 2);
        all[OUTSIDE.length] = count;
        all[OUTSIDE.length + 1] = count + 1;
        return Arrays.stream(all).filter(i -> i < 0 || i >= count).toArray();
    }

    static void due(String call, boolean got, boolean want) {
        due(call, got ? 1 : 0, want ? 1 : 0);
    }

    /** Feeds a text of ASCII signs, 24 a call, zeros behind the last one. */
    static int feed(EndsRound poem, String text) {
        int length = poem.count(8);
        for (int i = 0; i < text.length(); i += 24) {
            length = poem.feed(bytes(text, i), bytes(text, i + 8), bytes(text, i + 16));
        }
        return length;
    }

    private static long bytes(String text, int from) {
        long packed = 0;
        for (int i = from; i < from + 8; i++) {
            packed = packed << 8 | (i < text.length() ? text.charAt(i) : 0);
        }
        return packed;
    }

    static int read(EndsRound poem, String text) {
        feed(poem, text);
        return poem.form();
    }

    static EndsRound of(String text) {
        EndsRound poem = new EndsRound();
        due("form of '" + text + "'", read(poem, text), 0);
        return poem;
    }

    /** The text has its fault at the sign ^, which is not fed. */
    static void fault(String text, int kind) {
        int place = text.indexOf('^');
        String fed = text.substring(0, place) + text.substring(place + 1);
        EndsRound poem = of("ends 2;turn back;feet 3;word w rhyme 1 beats 1 kind 1;");
        poem.line(0, 1, 3);
        due("fault of '" + text + "'", read(poem, fed), kind + 16 * place);
        due("ends behind '" + text + "'", poem.count(0), 2);
        due("steps behind '" + text + "'", poem.count(1), 1);
        due("feet behind '" + text + "'", poem.count(4), 3);
        due("words behind '" + text + "'", poem.count(5), 1);
        due("lines behind '" + text + "'", poem.count(7), 1);
        due("tape behind '" + text + "'", poem.count(8), 0);
    }

    /** What judged answers, or -100 if it throws. */
    static int judged(EndsRound poem, int what) {
        try {
            return poem.judged(what);
        } catch (NoSuchElementException e) {
            return -100;
        }
    }

    static void end() {
        System.out.println(wrong == 0 ? "all answers are as due" : wrong + " answers are not as due");
        if (wrong != 0) {
            System.exit(1);
        }
    }
}
