import java.util.NoSuchElementException;

/** What the project's tests share: feeding a text, and comparing an answer with the one that is due. */
final class Checks {
    private static int wrong = 0;

    private Checks() {
    }

    static void due(String call, long got, long want) {
        if (got != want) {
            wrong++;
            System.out.println(call + " answered " + got + ", due is " + want);
        }
    }

    static void due(String call, boolean got, boolean want) {
        due(call, got ? 1 : 0, want ? 1 : 0);
    }

    /** Feeds a text of ASCII signs, 24 a call, zeros behind the last one. */
    static int feed(EndsRound poem, String text) {
        int length = poem.count(8);
        for (int i = 0; i < text.length(); i += 24) {
            length = poem.feed(bytes(text, i), bytes(text, i + 8), bytes(text, i + 16));
        }
        return length;
    }

    private static long bytes(String text, int from) {
        long packed = 0;
        for (int i = from; i < from + 8; i++) {
            packed = packed << 8 | (i < text.length() ? text.charAt(i) : 0);
        }
        return packed;
    }

    static int read(EndsRound poem, String text) {
        feed(poem, text);
        return poem.form();
    }

    static EndsRound of(String text) {
        EndsRound poem = new EndsRound();
        due("form of '" + text + "'", read(poem, text), 0);
        return poem;
    }

    /** The text has its fault at the sign ^, which is not fed. */
    static void fault(String text, int kind) {
        int place = text.indexOf('^');
        String fed = text.substring(0, place) + text.substring(place + 1);
        EndsRound poem = of("ends 2;turn back;feet 3;word w rhyme 1 beats 1 kind 1;");
        poem.line(0, 1, 3);
        due("fault of '" + text + "'", read(poem, fed), kind + 16 * place);
        due("ends behind '" + text + "'", poem.count(0), 2);
        due("steps behind '" + text + "'", poem.count(1), 1);
        due("feet behind '" + text + "'", poem.count(4), 3);
        due("words behind '" + text + "'", poem.count(5), 1);
        due("lines behind '" + text + "'", poem.count(7), 1);
        due("tape behind '" + text + "'", poem.count(8), 0);
    }

    /** What judged answers, or -100 if it throws. */
    static int judged(EndsRound poem, int what) {
        try {
            return poem.judged(what);
        } catch (NoSuchElementException e) {
            return -100;
        }
    }

    static void end() {
        System.out.println(wrong == 0 ? "all answers are as due" : wrong + " answers are not as due");
        if (wrong != 0) {
            System.exit(1);
        }
    }
}
