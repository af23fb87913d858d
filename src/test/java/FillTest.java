/** Promises 15 to 17: how many fills, the first one, the ends that are stuck. */
final class FillTest {
    public static void main(String[] args) {
        free();
        rhymes();
        bars();
        stuck();
        eight();
        Checks.end();
    }

    private static String words(int... rhymes) {
        StringBuilder text = new StringBuilder();
        for (int i = 0; i < rhymes.length; i++) {
            text.append("word ").append((char) ('a' + i)).append(" rhyme ").append(rhymes[i]).append(" beats 1 kind ")
                .append(i).append(';');
        }
        return text.toString();
    }

    private static void filled(EndsRound poem, String text, long fills, int... first) {
        Checks.due(text + " fills", poem.fills(), fills);
        for (int end = 0; end < first.length; end++) {
            Checks.due(text + " fill(" + end + ")", poem.fill(end), first[end]);
        }
        Checks.due(text + " fill(-1)", poem.fill(-1), -1);
        Checks.due(text + " fill of no end", poem.fill(poem.count(0)), -1);
        Checks.due(text + " fills again", poem.fills(), fills);
    }

    private static void filled(String text, long fills, int... first) {
        EndsRound poem = Checks.of(text);
        filled(poem, text, fills, first);
        Checks.due(text + " stuck(0)", poem.stuck(0), -1);
        Checks.due(text + " stuck(1)", poem.stuck(1), -1);
    }

    private static void free() {
        filled("ends 7;" + words(0, 0, 0, 0, 0, 0, 0, 0, 0, 0, 0, 0), 3991680, 0, 1, 2, 3, 4, 5, 6);
        filled("ends 7;turn spiral;" + words(1, 2, 3, 4, 5, 6, 7), 5040, 0, 1, 2, 3, 4, 5, 6);
        filled("ends 1;" + words(5), 1, 0);
    }

    private static void rhymes() {
        filled("ends 4;rhyme 0 3;rhyme 1 2;" + words(1, 2, 2, 1, 2), 2 * 6 + 6 * 2, 0, 1, 2, 3);
        filled("ends 3;turn swap 0 1;rhyme 0 2;" + words(9, 1, 1, 9, 1), 6, 1, 2, 4);
    }

    private static void bars() {
        // No word may stand right ahead of a word that is told before it.
        filled("ends 3;bar next<sort;" + words(1, 1, 1), 1, 0, 1, 2);
        // In the other stanza they stand the other way round, and the middle one beside both in both.
        EndsRound poem = Checks.of("ends 3;turn back;bar next<sort;" + words(1, 1, 1));
        filled(poem, "back", 0, -1, -1, -1);
        Checks.due("stuck of back", poem.stuck(0), 2);
        Checks.due("bits of back", poem.stuck(1), 3);
        // From one stanza's last line to the next one's first nothing is barred.
        filled("ends 2;bar sort=1 and next=0;" + words(1, 1), 1, 0, 1);
        filled("ends 1;bar 1;" + words(1, 1), 2, 0);
    }

    private static void stuck(String text, int many, int bits) {
        EndsRound poem = Checks.of(text);
        Checks.due(text + " stuck(0)", poem.stuck(0), many);
        Checks.due(text + " stuck(1)", poem.stuck(1), bits);
        Checks.due(text + " stuck(2)", poem.stuck(2), -1);
        Checks.due(text + " stuck(-1)", poem.stuck(-1), -1);
        filled(poem, text, 0, -1);
        Checks.due(text + " stuck(1) again", poem.stuck(1), bits);
    }

    private static void stuck() {
        stuck("ends 7;", 1, 1);
        stuck("ends 4;" + words(1, 2), 3, 7);
        stuck("ends 4;rhyme 1 3;" + words(1, 2, 3, 4), 2, 10);
        // Ends 0 and 2 are of one class by end 1 alone: they rhyme even when end 1 is left out.
        stuck("ends 4;rhyme 3 1;rhyme 1 2;" + words(1, 2, 3, 4), 2, 6);
        stuck("ends 4;rhyme 1 2;rhyme 2 3;" + words(1, 1, 3, 4), 3, 14);
        stuck("ends 5;bar 1;" + words(1, 1, 3, 4, 5), 2, 3);
        stuck("ends 5;bar sort<4 and next<4;" + words(1, 1, 3, 4, 5), 4, 15);
        stuck("ends 4;rhyme 0 1;rhyme 2 3;" + words(1, 1, 3, 4, 5), 4, 15);
    }

    private static void eight() {
        EndsRound poem = Checks.of("ends 8;" + words(1, 1, 1, 1, 1, 1, 1, 1));
        Checks.due("fills of eight", poem.fills(), -1);
        Checks.due("fill of eight", poem.fill(0), -1);
        Checks.due("stuck of eight", poem.stuck(0), -1);
        Checks.due("stuck bits of eight", poem.stuck(1), -1);
        // What was found for one form is not told of another one.
        Checks.read(poem, "ends 3;");
        Checks.due("stuck of three", poem.stuck(1), 1);
        Checks.read(poem, "ends 3;" + words(1, 1));
        Checks.due("stuck of three of two", poem.stuck(1), 7);
        Checks.read(poem, "ends 2;" + words(1, 1));
        filled(poem, "two", 2, 0, 1);
        Checks.due("lay", poem.mark(2, false), true);
        Checks.read(poem, "ends 2;" + words(1));
        filled(poem, "two of one", 0, -1, -1);
        Checks.due("stuck of two", poem.stuck(1), 3);
        Checks.due("back", poem.mark(2, true), true);
        filled(poem, "two again", 2, 0, 1);
        Checks.due("stuck of none", poem.stuck(1), -1);
    }
}
