/** Promises 11 to 14: classes of ends, who stands beside whom, words, who bars whom. */
final class LexiconTest {
    public static void main(String[] args) {
        classes();
        beside();
        words();
        barred();
        Checks.end();
    }

    private static void classes(String text, int... want) {
        EndsRound poem = Checks.of(text);
        for (int end = 0; end < want.length; end++) {
            Checks.due(text + " rhymes(" + end + ")", poem.rhymes(end), want[end]);
        }
        Checks.due(text + " rhymes(-1)", poem.rhymes(-1), -1);
        Checks.due(text + " rhymes behind the last", poem.rhymes(want.length), -1);
    }

    private static void classes() {
        classes("ends 4;", 0, 1, 2, 3);
        classes("ends 4;rhyme 3 1;", 0, 1, 2, 1);
        classes("ends 4;rhyme 0 2;rhyme 2 3;", 0, 1, 0, 0);
        classes("ends 5;rhyme 3 4;rhyme 1 2;rhyme 4 2;", 0, 1, 1, 1, 1);
        // Terza rima by a turning of pairs: what rhymes in stanza 1 counts too.
        classes("ends 4;turn swap 0 1;rhyme 0 2;", 0, 0, 0, 3);
        classes("ends 4;turn swap 0 1 swap 2 3;rhyme 0 2;", 0, 1, 0, 1);
        classes("ends 6;turn spiral;rhyme 0 5;", 0, 0, 0, 0, 0, 0);
        classes("ends 6;turn back;rhyme 0 5;", 0, 1, 2, 3, 4, 0);
        classes("ends 6;turn shift 3;rhyme 0 1;rhyme 3 5;", 0, 0, 0, 3, 3, 3);
    }

    private static void beside() {
        EndsRound poem = Checks.of("ends 4;turn swap 0 1;");
        int[][] want = {{-1, 2, 1, 0}, {2, -1, 1, 0}, {1, 1, -1, 2}, {0, 0, 2, -1}};
        for (int a = 0; a < 4; a++) {
            for (int b = 0; b < 4; b++) {
                Checks.due("beside(" + a + ", " + b + ")", poem.beside(a, b), want[a][b]);
            }
        }
        Checks.due("beside none", poem.beside(0, 4), -1);
        Checks.due("beside of none", poem.beside(4, 0), -1);
        Checks.due("beside -1", poem.beside(0, -1), -1);
        Checks.due("beside of -1", poem.beside(-1, 0), -1);
        // Each stanza of a sestina's round has five pairs of neighbours.
        EndsRound sestina = Checks.of("ends 6;turn spiral;");
        int pairs = 0;
        for (int a = 0; a < 6; a++) {
            for (int b = 0; b < a; b++) {
                pairs += sestina.beside(a, b);
            }
        }
        Checks.due("pairs of a sestina", pairs, 30);
        Checks.due("two ends that change", Checks.of("ends 2;turn back;").beside(0, 1), 2);
        Checks.due("two ends that stay", Checks.of("ends 2;").beside(0, 1), 1);
    }

    private static void words() {
        EndsRound poem = Checks.of("ends 1;word a rhyme 0 beats 9 kind 99;word long rhyme 99 beats 1 kind 0;");
        Checks.due("word(0, 0)", poem.word(0, 0), 0);
        Checks.due("word(0, 1)", poem.word(0, 1), 9);
        Checks.due("word(0, 2)", poem.word(0, 2), 99);
        Checks.due("word(1, 0)", poem.word(1, 0), 99);
        Checks.due("word(1, 1)", poem.word(1, 1), 1);
        Checks.due("word(1, 2)", poem.word(1, 2), 0);
        Checks.due("word of another what", poem.word(0, 3), -1);
        Checks.due("word of what -1", poem.word(0, -1), -1);
        Checks.due("no such word", poem.word(2, 0), -1);
        Checks.due("word -1", poem.word(-1, 0), -1);
    }

    /** Whether a bar holds for a word of rhyme 1, 2 beats, kind 5 and one of rhyme 1, 7 beats, kind 3. */
    private static void bar(String test, int want) {
        EndsRound poem = Checks.of("ends 1;bar " + test + ";word a rhyme 1 beats 2 kind 5;word b rhyme 1 beats 7 kind 3;");
        Checks.due("bar " + test, poem.barred(0, 1), want);
    }

    private static void barred() {
        bar("sort=5", 1);
        bar("next=3", 1);
        bar("long=2", 1);
        bar("short=7", 1);
        bar("alike", 1);
        bar("alike=1", 1);
        bar("0", 0);
        bar("sort-5", 0);
        bar("sort-6", 1);
        bar("next<sort", 1);
        bar("sort<next", 0);
        bar("sort<sort", 0);
        bar("2+3*2=8", 1);
        bar("(2+3)*2=10", 1);
        bar("10-3-2=5", 1);
        bar("not 0*0", 0);
        bar("not 2*3=0", 1);
        bar("not not 7=1", 1);
        bar("1 or 1 and 0", 0);
        bar("0 and 1 or 1", 1);
        bar("0 and 0 or 0", 0);
        bar("7 and 8", 1);
        bar("(7 and 8)=1", 1);
        bar("(7 or 0)=1", 1);
        bar("(0-1) and 0-1", 1);
        bar("0-1<0", 1);
        bar("9999*9999*9999<0", 1);
        bar("8192*8192*64", 0);
        bar("8192*8192*32<0", 1);
        bar("8192*8192*32-1<0", 0);
        EndsRound poem = Checks.of("ends 1;bar sort=1 and next=2;word a rhyme 1 beats 1 kind 1;word b rhyme 1 beats 1 kind 2;"
            + "bar 0;word c rhyme 2 beats 1 kind 2;bar alike and sort=next;");
        int[][] want = {{1, 1, 1}, {0, 1, 0}, {0, 0, 1}};
        for (int a = 0; a < 3; a++) {
            for (int b = 0; b < 3; b++) {
                Checks.due("barred(" + a + ", " + b + ")", poem.barred(a, b), want[a][b]);
            }
        }
        Checks.due("barred none", poem.barred(0, 3), -1);
        Checks.due("none barred", poem.barred(3, 0), -1);
        Checks.due("barred -1", poem.barred(0, -1), -1);
        Checks.due("-1 barred", poem.barred(-1, 0), -1);
        Checks.due("another form", Checks.read(poem, "ends 1;word a rhyme 1 beats 1 kind 1;word b rhyme 1 beats 1 kind 2;"), 0);
        Checks.due("a form's bars are its own", poem.barred(0, 1), 0);
        Checks.due("a fault behind a bar", Checks.read(poem, "ends 1;bar 1;rhyme;"), 1 + 16 * 18);
        Checks.due("a fault bars none", poem.barred(0, 1), 0);
        Checks.due("a form again", Checks.read(poem, "ends 1;bar 0;word a rhyme 1 beats 1 kind 1;"), 0);
        Checks.due("a fault's bars are gone", poem.barred(0, 0), 0);
        Checks.due("no bars", Checks.of("ends 1;word a rhyme 1 beats 1 kind 1;").barred(0, 0), 0);
    }
}
