/** Promises 18 to 20: lines, an empty draft, what is wrong in one. */
final class DraftTest {
    private static final String FORM = "ends 3;turn spiral;rhyme 0 2;whole 1 every 2;feet 5;word a rhyme 1 beats 1 kind 1;"
        + "word b rhyme 1 beats 1 kind 2;word c rhyme 1 beats 1 kind 3;word d rhyme 2 beats 1 kind 4;word e rhyme 2 beats 1 kind 5;"
        + "bar sort=3 and next=1;";

    public static void main(String[] args) {
        lines();
        whatElse();
        judged("empty", -1, 0);
        // Spiral of three: a b c, c a b, b c a; here classes hang all together.
        judged("right", -1, 0, 0, 1, 5, 1, 2, 5, 2, 3, 5);
        judged("again", 1, 1, 0, 1, 5, 0, 2, 5);
        judged("first rhyme", 1, 2, 0, 1, 5, 3, 2, 5);
        judged("again before feet", 1, 1, 0, 1, 5, 0, 2, 4);
        judged("rhyme before feet", 1, 2, 0, 1, 5, 3, 2, 4);
        judged("feet", 0, 4, 0, 1, 4);
        judged("feet before bar", 1, 4, 2, 1, 5, 0, 2, 4);
        judged("bar", 1, 5, 2, 1, 5, 0, 2, 5);
        judged("another word", 3, 1, 0, 1, 5, 1, 2, 5, 2, 3, 5, 0, 4, 5);
        judged("whole", 7, 3, 0, 1, 5, 2, 2, 5, 1, 3, 5, 1, 9, 5, 0, 9, 5, 2, 9, 5, 2, 9, 5, 1, 3, 4);
        judged("another word before whole", 7, 1, 0, 1, 5, 2, 2, 5, 1, 3, 5, 1, 9, 5, 0, 9, 5, 2, 9, 5, 2, 9, 5, 0, 3, 4);
        judged("whole again", 8, 4, 0, 1, 5, 2, 2, 5, 1, 3, 5, 1, 9, 5, 0, 9, 5, 2, 9, 5, 2, 9, 5, 1, 2, 5, 0, 7, 6);
        betweenStanzas();
        classOfTwo();
        everyOne();
        Checks.end();
    }

    private static void lines() {
        EndsRound poem = Checks.of("ends 1;word a rhyme 1 beats 1 kind 1;word b rhyme 1 beats 1 kind 1;");
        Checks.due("no word -1", poem.line(-1, 0, 0), -1);
        Checks.due("no word 2", poem.line(2, 0, 0), -1);
        Checks.due("text -1", poem.line(0, -1, 0), -1);
        Checks.due("text 1000", poem.line(0, 1000, 0), -1);
        Checks.due("beats -1", poem.line(0, 0, -1), -1);
        Checks.due("beats 100", poem.line(0, 0, 100), -1);
        Checks.due("none of these", poem.count(7), 0);
        for (int i = 1; i <= 60; i++) {
            Checks.due("line " + i, poem.line(i % 2, i == 60 ? 999 : 0, i == 60 ? 99 : 0), i);
        }
        Checks.due("line 61", poem.line(0, 0, 0), -1);
        Checks.due("60 lines", poem.count(7), 60);
        Checks.due("clear", poem.clear(), true);
        Checks.due("no lines", poem.count(7), 0);
        Checks.due("clear twice", poem.clear(), true);
        Checks.due("line 1 again", poem.line(1, 0, 0), 1);
        Checks.due("words stay", poem.count(5), 2);
    }

    private static void whatElse() {
        EndsRound poem = Checks.of(FORM);
        Checks.due("judged(2)", Checks.judged(poem, 2), -100);
        Checks.due("judged(-1)", Checks.judged(poem, -1), -100);
        poem.line(0, 0, 0);
        Checks.due("judged(MAX)", Checks.judged(poem, Integer.MAX_VALUE), -100);
        Checks.due("the line stays", poem.count(7), 1);
    }

    private static void judged(String name, int line, int why, int... lines) {
        EndsRound poem = Checks.of(FORM);
        for (int i = 0; i + 2 < lines.length; i += 3) {
            poem.line(lines[i], lines[i + 1], lines[i + 2]);
        }
        Checks.due(name + " judged(0)", Checks.judged(poem, 0), line);
        Checks.due(name + " judged(1)", Checks.judged(poem, 1), why);
    }

    private static void betweenStanzas() {
        // The last line of a stanza is not ahead of the first one of the next.
        EndsRound poem = Checks.of("ends 2;turn back;bar sort=next;word a rhyme 1 beats 1 kind 1;word b rhyme 1 beats 1 kind 2;");
        poem.line(0, 0, 0);
        poem.line(1, 0, 0);
        poem.line(1, 0, 0);
        poem.line(0, 0, 99);
        Checks.due("no bar between stanzas", Checks.judged(poem, 0), -1);
        poem.line(1, 0, 0);
        Checks.due("stanza 2 as stanza 0", Checks.judged(poem, 0), 4);
        Checks.due("why", Checks.judged(poem, 1), 1);
    }

    private static void classOfTwo() {
        EndsRound poem = Checks.of("ends 3;rhyme 0 2;word a rhyme 1 beats 1 kind 1;word b rhyme 2 beats 1 kind 1;"
            + "word c rhyme 2 beats 1 kind 1;");
        poem.line(0, 0, 0);
        poem.line(1, 0, 0);
        Checks.due("another class", Checks.judged(poem, 0), -1);
        poem.line(2, 0, 0);
        Checks.due("its class", Checks.judged(poem, 0), 2);
        Checks.due("does not rhyme", Checks.judged(poem, 1), 2);
    }

    private static void everyOne() {
        EndsRound poem = Checks.of("ends 1;whole 0 every 3;word a rhyme 1 beats 1 kind 1;");
        for (int stanza = 0; stanza < 8; stanza++) {
            poem.line(0, stanza % 3 == 0 ? 7 : stanza, 0);
        }
        Checks.due("each third is the first", Checks.judged(poem, 0), -1);
        poem.line(0, 8, 0);
        poem.line(0, 8, 0);
        Checks.due("the ninth is not", Checks.judged(poem, 0), 9);
        Checks.due("why the ninth is not", Checks.judged(poem, 1), 3);
    }
}
