/** The boundaries of promises 11 to 17, classes, neighbours, words, bars and fills; each test is of one sentence. */
final class BoundsWordsTest {
    public static void main(String[] args) {
        Classes.all();
        besideInOneRound();
        besideOfOthers();
        wordsOfOthers();
        Bars.all();
        Fills.all();
        Stuck.all();
        Checks.end();
    }

    /** As many words, each of a rhyme; their kinds are their numbers. */
    static String words(int... rhymes) {
        StringBuilder text = new StringBuilder();
        for (int i = 0; i < rhymes.length; i++) {
            text.append("word ").append((char) ('a' + i)).append(" rhyme ").append(rhymes[i]).append(" beats 1 kind ").append(i).append(';');
        }
        return text.toString();
    }

    /** As many words of one rhyme. */
    static String alike(int many) {
        return words(new int[many]);
    }

    /** What hangs together. */
    private static final class Classes {
        private static void all() {
            inSomeStanza();
            byItsLeastEnd();
            others();
        }

        private static void classes(String text, int... want) {
            EndsRound poem = Checks.of("ends " + want.length + ";" + text);
            for (int end = 0; end < want.length; end++) {
                Checks.due(text + " rhymes(" + end + ")", poem.rhymes(end), want[end]);
            }
        }

        private static void inSomeStanza() {
            Checks.sentence(11, "ENDS are of one CLASS if in some STANZA they stand at PLACES that rhyme, and all that hang together by such");
            classes("", 0);
            classes("", 0, 1, 2, 3, 4, 5, 6, 7, 8, 9, 10, 11);
            classes("rhyme 0 1;", 0, 0);
            classes("rhyme 11 0;", 0, 1, 2, 3, 4, 5, 6, 7, 8, 9, 10, 0);
            // In the last stanza of the round alone, which is the sixth.
            classes("turn swap 0 1 swap 2 3 swap 3 4;rhyme 0 2;", 0, 0, 0, 0, 0);
            classes("turn swap 0 1 swap 2 3;rhyme 0 2;rhyme 4 5;", 0, 1, 0, 1, 4, 4);
            classes("turn shift 1;rhyme 0 11;", 0, 0, 0, 0, 0, 0, 0, 0, 0, 0, 0, 0);
            classes("turn shift 6;rhyme 0 6;", 0, 1, 2, 3, 4, 5, 0, 7, 8, 9, 10, 11);
            classes("rhyme 0 1;rhyme 2 3;rhyme 4 5;rhyme 6 7;rhyme 1 2;rhyme 5 6;rhyme 3 4;", 0, 0, 0, 0, 0, 0, 0, 0);
            classes("rhyme 7 6;rhyme 6 5;rhyme 5 4;rhyme 4 3;rhyme 3 2;rhyme 2 1;rhyme 1 0;", 0, 0, 0, 0, 0, 0, 0, 0);
        }

        private static void byItsLeastEnd() {
            Checks.sentence(11, "a CLASS by its least END.");
            classes("rhyme 3 2;rhyme 2 1;", 0, 1, 1, 1, 4);
            classes("rhyme 4 3;rhyme 4 1;", 0, 1, 2, 1, 1);
            classes("rhyme 10 11;rhyme 9 11;", 0, 1, 2, 3, 4, 5, 6, 7, 8, 9, 9, 9);
            classes("rhyme 1 2;rhyme 3 4;rhyme 2 4;rhyme 4 0;", 0, 0, 0, 0, 0);
        }

        private static void others() {
            Checks.sentence(11, "The CLASS of an END; NONE: none such.");
            for (int ends : new int[] {1, 2, 12}) {
                EndsRound poem = Checks.of("ends " + ends + ";turn shift 1;");
                for (int end : Checks.outside(ends)) {
                    Checks.due("rhymes(" + end + ") of " + ends, poem.rhymes(end), -1);
                }
                Checks.due("rhymes(" + (ends - 1) + ")", poem.rhymes(ends - 1), ends - 1);
            }
            EndsRound poem = Checks.of("ends 12;rhyme 0 11;");
            Checks.due("form()", Checks.read(poem, "ends 3;"), 0);
            Checks.due("rhymes(3), an end of the form before", poem.rhymes(3), -1);
            Checks.due("rhymes(11), an end of the form before", poem.rhymes(11), -1);
        }
    }

    private static void besideInOneRound() {
        Checks.sentence(12, "BESIDE: in how many STANZAS of one ROUND two ENDS stand on lines one behind the other.");
        EndsRound still = Checks.of("ends 12;");
        Checks.due("the first two", still.beside(0, 1), 1);
        Checks.due("the last two", still.beside(11, 10), 1);
        Checks.due("not the first and the last one", still.beside(0, 11), 0);
        Checks.due("not with one between", still.beside(0, 2), 0);
        // A round of shifts: the first and the last one are parted in one of its stanzas each.
        EndsRound round = Checks.of("ends 12;turn shift 1;");
        for (int end = 0; end < 12; end++) {
            Checks.due("round of shifts, " + end, round.beside(end, (end + 1) % 12), 11);
            Checks.due("round of shifts, " + end + " with one between", round.beside(end, (end + 2) % 12), 0);
        }
        EndsRound pair = Checks.of("ends 2;turn back;");
        Checks.due("in each of two stanzas", pair.beside(0, 1), 2);
        Checks.due("in each of two stanzas", pair.beside(1, 0), 2);
        EndsRound longest = Checks.of("ends 12;turn spiral shift 2 swap 1 8;");
        int all = 0;
        for (int a = 0; a < 12; a++) {
            for (int b = 0; b < a; b++) {
                all += longest.beside(a, b);
            }
        }
        Checks.due("all pairs of 60 stanzas", all, 60 * 11);
    }

    private static void besideOfOthers() {
        Checks.sentence(12, "BESIDE; NONE: others, the same.");
        for (int ends : new int[] {1, 2, 12}) {
            EndsRound poem = Checks.of("ends " + ends + ";turn shift 1;");
            for (int end = 0; end < ends; end++) {
                Checks.due("beside(" + end + ", " + end + ") of " + ends, poem.beside(end, end), -1);
            }
            for (int other : Checks.outside(ends)) {
                Checks.due("beside(" + other + ", 0) of " + ends, poem.beside(other, 0), -1);
                Checks.due("beside(0, " + other + ") of " + ends, poem.beside(0, other), -1);
                Checks.due("beside(" + other + ", " + other + ") of " + ends, poem.beside(other, other), -1);
            }
        }
    }

    private static void wordsOfOthers() {
        Checks.sentence(13, "Of a word, what 0: rhyme, 1: beats, 2: kind; NONE: others.");
        EndsRound empty = new EndsRound();
        EndsRound full = Checks.of("ends 1;" + words(99, 0, 1, 2, 3, 4, 5, 6, 7, 8, 9, 98));
        for (int what = -1; what <= 3; what++) {
            Checks.due("word(0, " + what + ") of no words", empty.word(0, what), -1);
            Checks.due("word(12, " + what + ") of twelve", full.word(12, what), -1);
        }
        for (int word : Checks.outside(12)) {
            Checks.due("word(" + word + ", 0) of no words", empty.word(word, 0), -1);
            Checks.due("word(" + word + ", 0) of twelve", full.word(word, 0), -1);
            Checks.due("word(" + word + ", 2) of twelve", full.word(word, 2), -1);
        }
        for (int what : Checks.outside(3)) {
            Checks.due("word(0, " + what + ") of twelve", full.word(0, what), -1);
            Checks.due("word(11, " + what + ") of twelve", full.word(11, what), -1);
        }
        Checks.due("word(0, 0)", full.word(0, 0), 99);
        Checks.due("word(1, 0)", full.word(1, 0), 0);
        Checks.due("word(11, 0)", full.word(11, 0), 98);
        Checks.due("word(11, 1)", full.word(11, 1), 1);
        Checks.due("word(11, 2)", full.word(11, 2), 11);
        EndsRound most = Checks.of("ends 1;word a rhyme 99 beats 9 kind 99;word b rhyme 0 beats 1 kind 0;");
        int[] want = {99, 9, 99, 0, 1, 0};
        for (int i = 0; i < want.length; i++) {
            Checks.due("word(" + i / 3 + ", " + i % 3 + ")", most.word(i / 3, i % 3), want[i]);
        }
        Checks.due("word(2, 0): one less were told", most.word(2, 0), -1);
        Checks.due("form()", Checks.read(most, "ends 1;word c rhyme 5 beats 5 kind 5;"), 0);
        Checks.due("word(1, 0), of the form before", most.word(1, 0), -1);
    }

    /** What an E comes to. */
    private static final class Bars {
        private static void all() {
            factsAtTheirBounds();
            oneOrZero();
            notZeroIsSo();
            intsWrap();
            fromTheLeft();
            deepest();
            others();
            noBars();
        }

        /** Whether an E bars word a (rhyme 99, beats 9, kind 99) ahead of word b (rhyme 0, beats 1, kind 0). */
        private static void bar(String test, int want) {
            EndsRound poem = Checks.of("ends 1;word a rhyme 99 beats 9 kind 99;word b rhyme 0 beats 1 kind 0;bar " + test + ";");
            Checks.due("barred(0, 1) by " + test, poem.barred(0, 1), want);
        }

        private static void factsAtTheirBounds() {
            Checks.sentence(14, "Facts of two words that end lines one behind the other: sort, next (kind of the first, the second one), long,"
                + " short (beats of the first, the second one), alike (1 if they rhyme).");
            bar("sort=99", 1);
            bar("sort-99", 0);
            bar("next=0", 1);
            bar("next", 0);
            bar("long=9", 1);
            bar("long-9", 0);
            bar("short=1", 1);
            bar("short-1", 0);
            bar("alike", 0);
            bar("alike=0", 1);
            EndsRound poem = Checks.of("ends 1;word a rhyme 99 beats 9 kind 99;word b rhyme 99 beats 1 kind 0;bar alike-1;");
            Checks.due("alike is 1, not more", poem.barred(0, 1), 0);
            Checks.due("a word rhymes with itself", poem.barred(0, 0), 0);
        }

        private static void oneOrZero() {
            Checks.sentence(14, "Of not, and, or, < and = comes 1 or 0;");
            bar("(not 0)-1", 0);
            bar("not 1", 0);
            bar("not 9999", 0);
            bar("(not 9999)=0", 1);
            bar("(not not 9999)-1", 0);
            bar("(9999 and 9998)-1", 0);
            bar("(9999 or 0)-1", 0);
            bar("(9999 or 9998)-1", 0);
            bar("(0 or 0)=0", 1);
            bar("(9999 and 0)=0", 1);
            bar("(1<2)-1", 0);
            bar("(2<1)=0", 1);
            bar("(1<1)=0", 1);
            bar("(2=2)-1", 0);
            bar("(2=1)=0", 1);
            bar("(0-1<0)-1", 0);
        }

        private static void notZeroIsSo() {
            Checks.sentence(14, "what is not 0 is so");
            bar("0", 0);
            bar("1", 1);
            bar("9999", 1);
            bar("0-1", 1);
            bar("not (0-1)", 0);
            bar("0-1 and 1", 1);
            bar("0-1 or 0", 1);
            bar("2 and 1", 1);
            bar("2 and 4", 1);
            bar("0 and 1", 0);
            bar("1 and 0", 0);
            bar("0 or 1", 1);
            bar("0 or 0", 0);
            bar("5-5", 0);
            bar("5*0", 0);
        }

        private static void intsWrap() {
            Checks.sentence(14, "ints wrap.");
            String most = "(8192*8192*32-1)";
            bar("8192*8192*64", 0);
            bar("8192*8192*32<0", 1);
            bar(most + "<0", 0);
            bar(most + "+1<0", 1);
            bar(most + "+1=8192*8192*32", 1);
            bar("8192*8192*32-1<0", 0);
            bar("0-8192*8192*32<0", 1);
            bar("8192*8192*32*3=8192*8192*32", 1);
            bar(most + "*" + most + "=1", 1);
            bar(most + "<8192*8192*32", 0);
            bar("8192*8192*32<" + most, 1);
            int power = 9999;
            for (int times = 1; times < 12; times++) {
                bar("9999" + "*9999".repeat(times - 1) + "<0", power < 0 ? 1 : 0);
                power *= 9999;
            }
        }

        private static void fromTheLeft() {
            Checks.sentence(14, "TEST { and TEST or or TEST }, from the left; TEST: SUM, or SUM < SUM, or SUM = SUM;");
            bar("1 or 1 and 0", 0);
            bar("0 and 0 or 1", 1);
            bar("1 or 0 and 0 or 0", 0);
            bar("10-3-2=5", 1);
            bar("10-3+2=9", 1);
            bar("2+3*4=14", 1);
            bar("2*3+4=10", 1);
            bar("1+1<1*3 and 2=2", 1);
            bar("not 0*0", 0);
            bar("not 0+1=2", 1);
        }

        private static void deepest() {
            Checks.sentence(14, "SUM: PRODUCT { + or - PRODUCT }; PRODUCT: PART { * PART }");
            // On each of the levels all kinds of parts wait for what is within.
            String text = "2";
            for (int i = 0; i < 3; i++) {
                text = "(1 and 1<1+1*" + text + ")";
            }
            bar("(1 and 1<1+1*" + text + ")-1", 0);
            bar("1 and 1<1+1*(1 and 1<1+1*" + text + ")", 1);
            bar("1 and 1<1+1*(1 and 1<0+1*" + text + ")", 0);
            String sum = "3";
            for (int i = 0; i < 4; i++) {
                sum = "(" + sum + "+2*" + sum.replaceAll("[()]", "") + ")";
            }
            bar(sum + "<1", 0);
            bar(sum, 1);
        }

        private static void others() {
            Checks.sentence(14, "Whether a bar's E is not 0 for two words: 1 or 0; NONE: others.");
            EndsRound empty = Checks.of("ends 1;bar 1;");
            EndsRound full = Checks.of("ends 1;bar sort=11 and next=0;" + alike(12));
            Checks.due("barred(0, 0) of no words", empty.barred(0, 0), -1);
            for (int word : Checks.outside(12)) {
                Checks.due("barred(" + word + ", 0) of no words", empty.barred(word, 0), -1);
                Checks.due("barred(" + word + ", 0) of twelve", full.barred(word, 0), -1);
                Checks.due("barred(0, " + word + ") of twelve", full.barred(0, word), -1);
                Checks.due("barred(11, " + word + ") of twelve", full.barred(11, word), -1);
                Checks.due("barred(" + word + ", " + word + ") of twelve", full.barred(word, word), -1);
            }
            for (int a = 0; a < 12; a++) {
                for (int b = 0; b < 12; b++) {
                    Checks.due("barred(" + a + ", " + b + ")", full.barred(a, b), a == 11 && b == 0 ? 1 : 0);
                }
            }
        }

        private static void noBars() {
            Checks.sentence(14, "Whether a bar's E is not 0 for two words: 1 or 0;");
            EndsRound none = Checks.of("ends 1;" + alike(2));
            Checks.due("barred(0, 1) without a bar", none.barred(0, 1), 0);
            // One of four is enough, be it the first or the last one.
            Checks.due("the first of four", Checks.of("ends 1;bar 1;bar 0;bar 0;bar 0;" + alike(2)).barred(0, 1), 1);
            Checks.due("the last of four", Checks.of("ends 1;bar 0;bar 0;bar 0;bar 1;" + alike(2)).barred(0, 1), 1);
            Checks.due("none of four", Checks.of("ends 1;bar 0;bar 0;bar 0;bar 0;" + alike(2)).barred(0, 1), 0);
            Checks.due("1 of four, not 4", Checks.of("ends 1;bar 1;bar 2;bar 1;bar 7;" + alike(2)).barred(0, 1), 1);
            Checks.due("words behind the bar", Checks.of("ends 1;bar sort=1;" + alike(2)).barred(1, 0), 1);
        }
    }

    /** Words for all ENDS. */
    private static final class Fills {
        private static void all() {
            noWordTwice();
            oneClass();
            oneBehindTheOther();
            sevenAtMost();
            moreThanSeven();
            leastFirst();
            fillOfOthers();
        }

        private static void fills(String text, long want) {
            Checks.due("fills() of " + text, Checks.of(text).fills(), want);
        }

        private static void noWordTwice() {
            Checks.sentence(15, "A FILL gives each END a word, no word twice");
            fills("ends 1;", 0);
            fills("ends 1;" + alike(1), 1);
            fills("ends 1;" + alike(12), 12);
            fills("ends 2;" + alike(1), 0);
            fills("ends 2;" + alike(2), 2);
            fills("ends 7;" + alike(6), 0);
            fills("ends 7;" + alike(7), 5040);
            fills("ends 7;" + alike(8), 40320);
            fills("ends 7;" + alike(12), 3991680);
        }

        private static void oneClass() {
            Checks.sentence(15, "so that ENDS of one CLASS rhyme");
            fills("ends 2;rhyme 0 1;" + words(1, 2), 0);
            fills("ends 2;rhyme 0 1;" + words(0, 99, 0), 2);
            fills("ends 2;" + words(1, 2), 2);
            fills("ends 7;turn shift 1;rhyme 0 1;" + words(1, 1, 1, 1, 1, 1, 2, 2, 2, 2, 2, 2), 0);
            fills("ends 7;turn shift 1;rhyme 0 1;" + words(1, 1, 1, 1, 1, 1, 1, 2, 2, 2, 2, 2), 5040);
            // Classes may rhyme with each other.
            fills("ends 4;rhyme 0 1;rhyme 2 3;" + words(1, 1, 1, 1), 24);
            fills("ends 4;rhyme 0 1;rhyme 2 3;" + words(1, 1, 1, 2, 2), 24);
        }

        private static void oneBehindTheOther() {
            Checks.sentence(15, "in no STANZA a bar's E is not 0 for the words of two lines one behind the other.");
            fills("ends 1;bar 1;" + alike(3), 3);
            fills("ends 2;bar 1;" + alike(3), 0);
            fills("ends 2;bar next<sort;" + alike(12), 66);
            fills("ends 2;turn back;bar next<sort;" + alike(12), 0);
            // The last line of a stanza is not ahead of the first one of the next, nor of its own.
            fills("ends 2;bar sort=1 and next=0;" + alike(2), 1);
            fills("ends 3;bar sort=2 and next=0;" + alike(3), 4);
            fills("ends 3;bar next<sort;" + alike(3), 1);
            // Only in the last stanza of the round, which is the third, end 2 comes ahead of end 0.
            fills("ends 3;turn shift 1;bar sort=2 and next=0;" + alike(3), 3);
            // No word stands ahead of itself in a fill.
            fills("ends 3;bar sort=next;" + alike(3), 6);
        }

        private static void sevenAtMost() {
            Checks.sentence(15, "FILLS: how many (with 7 ends at most).");
            fills("ends 7;bar next<sort;" + alike(12), 792);
            fills("ends 7;" + alike(7), 5040);
        }

        private static void moreThanSeven() {
            Checks.sentence(15, "FILLS; NONE: more than 7 ends.");
            for (int ends = 8; ends <= 12; ends++) {
                fills("ends " + ends + ";" + alike(12), -1);
                fills("ends " + ends + ";", -1);
            }
            EndsRound poem = Checks.of("ends 8;" + alike(12));
            Checks.due("form() of 7 ends", Checks.read(poem, "ends 7;" + alike(7)), 0);
            Checks.due("fills() of 7 behind 8", poem.fills(), 5040);
            Checks.due("form() of 8 ends", Checks.read(poem, "ends 8;" + alike(8)), 0);
            Checks.due("fills() of 8 behind 7", poem.fills(), -1);
        }

        private static void first(String text, int... want) {
            EndsRound poem = Checks.of("ends " + want.length + ";" + text);
            for (int end = 0; end < want.length; end++) {
                Checks.due("fill(" + end + ") of " + text, poem.fill(end), want[end]);
            }
        }

        private static void leastFirst() {
            Checks.sentence(16, "The first: the least words from END 0 on.");
            first(alike(1), 0);
            first(alike(12), 0, 1, 2, 3, 4, 5, 6);
            first("bar sort<next;" + alike(7), 6, 5, 4, 3, 2, 1, 0);
            first("bar sort<next;" + alike(12), 6, 5, 4, 3, 2, 1, 0);
            first("rhyme 0 6;" + words(1, 2, 3, 4, 5, 6, 7, 8, 9, 10, 11, 2), 1, 0, 2, 3, 4, 5, 11);
            first("rhyme 0 1;" + words(1, 2, 3, 3), 2, 3);
            first("rhyme 5 6;" + words(1, 1, 2, 3, 4, 5, 6), 2, 3, 4, 5, 6, 0, 1);
            first("bar sort=0;" + alike(2), 1, 0);
            first("bar next=0;" + alike(2), 0, 1);
        }

        private static void fillOfOthers() {
            Checks.sentence(16, "The word of an END in the first FILL; NONE: others, there is none, more than 7 ends.");
            EndsRound seven = Checks.of("ends 7;" + alike(12));
            for (int end : Checks.outside(7)) {
                Checks.due("fill(" + end + ") of 7 ends", seven.fill(end), -1);
            }
            Checks.due("fill(6) of 7 ends", seven.fill(6), 6);
            EndsRound none = Checks.of("ends 7;" + alike(6));
            EndsRound eight = Checks.of("ends 8;" + alike(12));
            EndsRound twelve = Checks.of("ends 12;" + alike(12));
            for (int end = -1; end <= 12; end++) {
                Checks.due("fill(" + end + ") without a fill", none.fill(end), -1);
                Checks.due("fill(" + end + ") of 8 ends", eight.fill(end), -1);
                Checks.due("fill(" + end + ") of 12 ends", twelve.fill(end), -1);
            }
            EndsRound one = Checks.of("ends 1;" + alike(12));
            Checks.due("fill(0) of 1 end", one.fill(0), 0);
            Checks.due("fill(1) of 1 end", one.fill(1), -1);
            Checks.due("form()", Checks.read(one, "ends 1;"), 0);
            Checks.due("fill(0) without words", one.fill(0), -1);
            Checks.due("form()", Checks.read(one, "ends 1;bar 1;" + alike(1)), 0);
            Checks.due("fill(0) with a word again", one.fill(0), 0);
        }
    }

    /** The ENDS that can't be given words together. */
    private static final class Stuck {
        private static void all() {
            theFewest();
            ofTheseAlone();
            leastAsBits();
            others();
        }

        private static void stuck(String text, int many, int bits) {
            EndsRound poem = Checks.of(text);
            Checks.due("stuck(0) of " + text, poem.stuck(0), many);
            Checks.due("stuck(1) of " + text, poem.stuck(1), bits);
        }

        private static void theFewest() {
            Checks.sentence(17, "STUCK: without any: the fewest ENDS that can't be given words together");
            stuck("ends 1;", 1, 1);
            stuck("ends 7;", 1, 1);
            stuck("ends 7;" + alike(1), 2, 3);
            stuck("ends 7;" + alike(6), 7, 127);
            stuck("ends 2;rhyme 0 1;" + words(1, 2), 2, 3);
            stuck("ends 7;rhyme 0 1;rhyme 2 3;rhyme 5 6;" + words(1, 1, 2, 2, 3, 4, 5, 6, 7, 8, 9, 10), 6, 111);
            // One end alone is stuck only where there are no words.
            stuck("ends 2;bar 1;" + alike(12), 2, 3);
        }

        private static void ofTheseAlone() {
            Checks.sentence(17, "(by all that is said of these alone)");
            // Ends 0 and 1 can be given words, and 1 and 2 can; all three can't.
            stuck("ends 3;bar sort=0 or sort=1;" + alike(3), 3, 7);
            stuck("ends 3;bar next=0 or next=1;" + alike(3), 3, 7);
            stuck("ends 3;bar not (sort=0 and next=2);" + alike(3), 3, 7);
            stuck("ends 4;bar not (sort=0 and next=2);" + alike(4), 3, 7);
            stuck("ends 4;turn swap 0 3;bar not (sort=0 and next=2);" + alike(4), 3, 7);
        }

        private static void leastAsBits() {
            Checks.sentence(17, "of equal ones the least as bits.");
            stuck("ends 7;rhyme 5 6;rhyme 4 6;" + words(1, 2, 3, 4, 5, 6, 7, 8), 2, 48);
            stuck("ends 7;rhyme 5 6;" + words(1, 2, 3, 4, 5, 6, 7, 8), 2, 96);
            stuck("ends 7;rhyme 0 6;rhyme 2 3;" + words(1, 2, 3, 4, 5, 6, 7, 8), 2, 12);
            stuck("ends 7;rhyme 0 6;rhyme 4 5;" + words(1, 2, 3, 4, 5, 6, 7, 8), 2, 48);
            stuck("ends 7;bar 1;" + alike(12), 2, 3);
            stuck("ends 4;" + alike(2), 3, 7);
        }

        private static void others() {
            Checks.sentence(17, "STUCK, what 0: how many ENDS, 1: as bits; NONE: another what, there is a FILL, more than 7 ends.");
            EndsRound none = Checks.of("ends 7;");
            EndsRound filled = Checks.of("ends 7;" + alike(7));
            EndsRound eight = Checks.of("ends 8;");
            for (int what : Checks.outside(2)) {
                Checks.due("stuck(" + what + ") without words", none.stuck(what), -1);
                Checks.due("stuck(" + what + ") with a fill", filled.stuck(what), -1);
                Checks.due("stuck(" + what + ") of 8 ends", eight.stuck(what), -1);
            }
            Checks.due("stuck(2) without words", none.stuck(2), -1);
            for (int what = 0; what < 2; what++) {
                Checks.due("stuck(" + what + ") without words", none.stuck(what), 1);
                Checks.due("stuck(" + what + ") with a fill", filled.stuck(what), -1);
                Checks.due("stuck(" + what + ") of 8 ends", eight.stuck(what), -1);
                Checks.due("stuck(" + what + ") of 12 ends", Checks.of("ends 12;" + alike(12)).stuck(what), -1);
            }
            Checks.due("form()", Checks.read(filled, "ends 7;" + alike(6)), 0);
            Checks.due("stuck(1) with a word less", filled.stuck(1), 127);
            Checks.due("form()", Checks.read(filled, "ends 7;" + alike(7)), 0);
            Checks.due("stuck(1) with the word again", filled.stuck(1), -1);
        }
    }
}
