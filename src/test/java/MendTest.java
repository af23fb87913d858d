/** Promises 21 and 22: the fewest words changed that mend a draft. */
final class MendTest {
    public static void main(String[] args) {
        mended("ends 2;", words(1, 1), new int[] {}, 0, 0, 1);
        mended("ends 2;", words(1), new int[] {}, -1, -1, -1);
        mended("ends 2;", words(1), new int[] {0}, -1, -1, -1);
        mended("ends 2;", words(1, 1, 1), new int[] {2}, 0, 2, 0);
        mended("ends 2;", words(1, 1, 1), new int[] {0, 0}, 1, 0, 1);
        mended("ends 2;", words(1, 1, 1), new int[] {2, 2}, 1, 0, 2);
        mended("ends 2;turn back;", words(1, 1, 1), new int[] {2, 1, 1, 2, 0, 0}, 2, 2, 1);
        mended("ends 2;turn back;", words(1, 1, 1), new int[] {2, 1, 2, 1}, 2, 1, 2);
        mended("ends 3;rhyme 0 2;", words(1, 2, 3, 3), new int[] {0, 1, 2}, 1, 3, 1, 2);
        mended("ends 3;rhyme 0 2;", words(1, 2, 3, 4), new int[] {0, 1, 2}, -1, -1, -1, -1);
        // Classes of two rhymes each: all that rhyme have to go together.
        mended("ends 4;rhyme 0 1;rhyme 2 3;", words(1, 2, 1, 2), new int[] {0, 1, 2, 3}, 2, 0, 2, 1, 3);
        // Bars, texts and beats do not count.
        mended("ends 2;feet 9;whole 0 every 1;bar 1;", words(1, 1), new int[] {1, 0, 1, 0}, 0, 1, 0);
        mended("ends 8;", words(1, 1, 1, 1, 1, 1, 1, 1, 1), new int[] {}, -1, -1, -1);
        mended("ends 7;", words(1, 1, 1, 1, 1, 1, 1, 1, 1, 1, 1, 1), new int[] {0, 0, 0, 0, 0, 0, 0}, 6, 0, 1, 2, 3, 4, 5, 6);
        kept();
        Checks.end();
    }

    private static String words(int... rhymes) {
        StringBuilder text = new StringBuilder();
        for (int i = 0; i < rhymes.length; i++) {
            text.append("word ").append((char) ('a' + i)).append(" rhyme ").append(rhymes[i]).append(" beats 1 kind 1;");
        }
        return text.toString();
    }

    private static void mended(String form, String words, int[] draft, int fewest, int... given) {
        EndsRound poem = Checks.of(form + words);
        for (int word : draft) {
            poem.line(word, poem.count(7), 1);
        }
        String name = form + words + java.util.Arrays.toString(draft);
        Checks.due(name + " mend", poem.mend(), fewest);
        for (int end = 0; end < given.length; end++) {
            Checks.due(name + " mended(" + end + ")", poem.mended(end), given[end]);
        }
        Checks.due(name + " mended(-1)", poem.mended(-1), -1);
        Checks.due(name + " mended of no end", poem.mended(poem.count(0)), -1);
        Checks.due(name + " lines stay", poem.count(7), draft.length);
    }

    /** What was found for one draft is not told of another one. */
    private static void kept() {
        EndsRound poem = Checks.of("ends 2;" + words(1, 1, 1));
        Checks.due("mend of none", poem.mend(), 0);
        poem.line(2, 0, 0);
        Checks.due("mended behind a line", poem.mended(0), 2);
        poem.mark(0, false);
        poem.line(2, 0, 0);
        Checks.due("mend behind two lines", poem.mend(), 1);
        poem.clear();
        Checks.due("mend behind clear", poem.mend(), 0);
        Checks.due("mended behind clear", poem.mended(0), 0);
        poem.mark(0, true);
        Checks.due("mended of a mark", poem.mended(0), 2);
        Checks.due("form", Checks.read(poem, "ends 3;" + words(1, 1)), 0);
        Checks.due("mend of a form", poem.mend(), -1);
    }
}
