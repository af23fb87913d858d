/** The boundaries of promises 18 to 22, lines, drafts judged and mended; each test is of one sentence. */
final class BoundsDraftTest {
    public static void main(String[] args) {
        Lines.all();
        clears();
        Judged.all();
        Mended.all();
        Checks.end();
    }

    private static String alike(int many) {
        return BoundsWordsTest.alike(many);
    }

    private static String words(int... rhymes) {
        return BoundsWordsTest.words(rhymes);
    }

    /** What may be a line. */
    private static final class Lines {
        private static void all() {
            atMost60();
            textsAndBeats();
            others();
            noSuchWord();
            sixtyAreThere();
        }

        private static void atMost60() {
            Checks.sentence(18, "The DRAFT: LINES, 60 at most");
            for (int ends : new int[] {1, 7, 12}) {
                EndsRound poem = Checks.of("ends " + ends + ";" + alike(12));
                for (int i = 1; i <= 60; i++) {
                    Checks.due("line " + i + " of " + ends + " ends", poem.line(i % 12, i, i), i);
                    Checks.due("count(7) behind it", poem.count(7), i);
                }
                Checks.due("line 61", poem.line(0, 0, 0), -1);
                Checks.due("line 62", poem.line(0, 0, 0), -1);
                Checks.due("count(7) behind these", poem.count(7), 60);
            }
        }

        private static void textsAndBeats() {
            Checks.sentence(18, "a TEXT (0 to 999, what it says whole), beats (0 to 99).");
            EndsRound poem = Checks.of("ends 1;" + alike(1));
            Checks.due("the least text and beats", poem.line(0, 0, 0), 1);
            Checks.due("the greatest text", poem.line(0, 999, 0), 2);
            Checks.due("the greatest beats", poem.line(0, 0, 99), 3);
            Checks.due("the greatest of both", poem.line(0, 999, 99), 4);
            for (int text : Checks.outside(1000)) {
                Checks.due("text " + text, poem.line(0, text, 0), -1);
            }
            for (int beats : Checks.outside(100)) {
                Checks.due("beats " + beats, poem.line(0, 0, beats), -1);
            }
            Checks.due("count(7)", poem.count(7), 4);
            // All that is told of a line is kept apart from what is told of the others.
            EndsRound whole = Checks.of("ends 2;whole 1 every 1;feet 99;" + alike(12));
            whole.line(0, 0, 99);
            whole.line(11, 999, 99);
            whole.line(0, 0, 99);
            whole.line(11, 999, 99);
            Checks.due("judged(0) of the greatest", Checks.judged(whole, 0), -1);
            whole.line(0, 0, 99);
            whole.line(11, 998, 99);
            Checks.due("judged(0) of another text", Checks.judged(whole, 0), 5);
            Checks.due("judged(1) of another text", Checks.judged(whole, 1), 3);
        }

        private static void others() {
            Checks.sentence(18, "A LINE of the DRAFT: how many there are; NONE: others");
            EndsRound poem = Checks.of("ends 1;" + alike(12));
            Checks.due("the first", poem.line(11, 0, 0), 1);
            for (int word : Checks.outside(12)) {
                Checks.due("line(" + word + ", 0, 0)", poem.line(word, 0, 0), -1);
                Checks.due("line(" + word + ", -1, -1)", poem.line(word, -1, -1), -1);
            }
            Checks.due("all too great", poem.line(12, 1000, 100), -1);
            Checks.due("count(7): none of these", poem.count(7), 1);
            Checks.due("the second", poem.line(0, 999, 99), 2);
            Checks.due("judged(0): the first is as it was", Checks.judged(poem, 0), 1);
        }

        private static void noSuchWord() {
            Checks.sentence(18, "no such word, 60 are there.");
            EndsRound poem = new EndsRound();
            Checks.due("line(0, 0, 0) without words", poem.line(0, 0, 0), -1);
            Checks.due("form() of one word", Checks.read(poem, "ends 1;" + alike(1)), 0);
            Checks.due("line(0, 0, 0) with one word", poem.line(0, 0, 0), 1);
            Checks.due("line(1, 0, 0) with one word", poem.line(1, 0, 0), -1);
            Checks.due("form() of twelve words", Checks.read(poem, "ends 1;" + alike(12)), 0);
            Checks.due("line(11, 0, 0) with twelve", poem.line(11, 0, 0), 1);
            Checks.due("line(12, 0, 0) with twelve", poem.line(12, 0, 0), -1);
            Checks.due("form() without words", Checks.read(poem, "ends 1;"), 0);
            Checks.due("line(0, 0, 0) without words again", poem.line(0, 0, 0), -1);
        }

        private static void sixtyAreThere() {
            Checks.sentence(18, "60 are there.");
            EndsRound poem = Checks.of("ends 1;" + alike(1));
            for (int i = 0; i < 60; i++) {
                poem.line(0, i, 0);
            }
            poem.mark(1, false);
            Checks.due("a line more", poem.line(0, 0, 0), -1);
            poem.clear();
            Checks.due("a line behind clear", poem.line(0, 0, 0), 1);
            poem.mark(1, true);
            Checks.due("count(7) of the mark", poem.count(7), 60);
            Checks.due("a line more behind the mark", poem.line(0, 0, 0), -1);
            Checks.due("form()", Checks.read(poem, "ends 1;" + alike(1)), 0);
            Checks.due("a line behind a form", poem.line(0, 0, 0), 1);
        }
    }

    private static void clears() {
        Checks.sentence(19, "`boolean clear()`: The DRAFT is empty: true.");
        EndsRound poem = new EndsRound();
        Checks.due("clear() of a new object", poem.clear(), true);
        Checks.due("clear() again", poem.clear(), true);
        Checks.due("form()", Checks.read(poem, "ends 2;turn back;whole 0 every 1;" + alike(2)), 0);
        Checks.due("clear() of an empty draft", poem.clear(), true);
        for (int i = 0; i < 60; i++) {
            poem.line(i % 2, 7, 7);
        }
        poem.mark(0, false);
        Checks.due("mend() of a full draft", poem.mend(), 30);
        Checks.due("judged(0) of a full draft", Checks.judged(poem, 0), 2);
        Checks.due("clear() of a full draft", poem.clear(), true);
        Checks.due("count(7)", poem.count(7), 0);
        Checks.due("judged(0)", Checks.judged(poem, 0), -1);
        Checks.due("judged(1)", Checks.judged(poem, 1), 0);
        Checks.due("mend()", poem.mend(), 0);
        Checks.due("mended(0)", poem.mended(0), 0);
        Checks.due("count(5): the form stays", poem.count(5), 2);
        Checks.due("turning(0, 0): the form stays", poem.turning(0, 0), 1);
        Checks.due("the first line", poem.line(1, 0, 0), 1);
        Checks.due("judged(0) of the first line", Checks.judged(poem, 0), -1);
        Checks.due("mark(0, true)", poem.mark(0, true), true);
        Checks.due("count(7): the mark's lines stay", poem.count(7), 60);
    }

    /** The first line that is wrong, and why. */
    private static final class Judged {
        private static void all() {
            noneIsWrong();
            anotherWhat();
            notItsEnds();
            wordBefore();
            rhyme();
            whole();
            feet();
            bar();
            firstThatHolds();
            firstLine();
        }

        /** Lines of words alone; where the first is wrong, and why. */
        private static void judged(EndsRound poem, int line, int why, int... words) {
            poem.clear();
            for (int word : words) {
                poem.line(word, 0, 0);
            }
            String of = " of " + java.util.Arrays.toString(words);
            Checks.due("judged(0)" + of, Checks.judged(poem, 0), line);
            Checks.due("judged(1)" + of, Checks.judged(poem, 1), why);
        }

        private static void noneIsWrong() {
            Checks.sentence(20, "JUDGED, what 0: the LINE (NONE: none is wrong), 1: why (0).");
            judged(new EndsRound(), -1, 0);
            EndsRound poem = Checks.of("ends 12;turn spiral;rhyme 0 11;whole 0 every 1;feet 7;bar 1;" + alike(12));
            judged(poem, -1, 0);
            EndsRound one = Checks.of("ends 1;" + alike(1));
            judged(one, -1, 0, 0);
            judged(one, -1, 0, new int[60]);
            EndsRound five = Checks.of("ends 12;turn shift 1;whole 3 every 4;bar next+1=sort and not (sort=11 and next=10);" + alike(12));
            int[] words = new int[60];
            for (int i = 0; i < 60; i++) {
                words[i] = (i % 12 - i / 12 + 12) % 12;
            }
            judged(five, -1, 0, words);
            words[59] = 11;
            judged(five, 59, 1, words);
        }

        private static void anotherWhat() {
            Checks.sentence(20, "NoSuchElementException: another what.");
            EndsRound empty = new EndsRound();
            EndsRound right = Checks.of("ends 1;" + alike(1));
            right.line(0, 0, 0);
            EndsRound wrong = Checks.of("ends 1;feet 1;" + alike(1));
            wrong.line(0, 0, 0);
            for (int what : Checks.outside(2)) {
                Checks.due("judged(" + what + ") of an empty draft", Checks.judged(empty, what), -100);
                Checks.due("judged(" + what + ") of a right one", Checks.judged(right, what), -100);
                Checks.due("judged(" + what + ") of a wrong one", Checks.judged(wrong, what), -100);
            }
            Checks.due("judged(0) behind these", Checks.judged(wrong, 0), 0);
            Checks.due("judged(1) behind these", Checks.judged(wrong, 1), 4);
            Checks.due("count(7) behind these", wrong.count(7), 1);
        }

        private static void notItsEnds() {
            Checks.sentence(20, "1 its word is not the one that its END had in STANZA 0;");
            EndsRound poem = Checks.of("ends 2;turn back;" + alike(3));
            judged(poem, -1, 0, 0, 1, 1, 0, 0, 1);
            judged(poem, 2, 1, 0, 1, 0);
            judged(poem, 2, 1, 0, 1, 2);
            judged(poem, 3, 1, 0, 1, 1, 2);
            judged(poem, 3, 1, 0, 1, 1, 1);
            judged(poem, 4, 1, 0, 1, 1, 0, 1);
            EndsRound one = Checks.of("ends 1;" + alike(2));
            judged(one, 1, 1, 0, 1);
            int[] words = new int[60];
            words[59] = 1;
            judged(one, 59, 1, words);
            EndsRound twelve = Checks.of("ends 12;turn shift 1;" + alike(12));
            judged(twelve, -1, 0, 0, 1, 2, 3, 4, 5, 6, 7, 8, 9, 10, 11, 11);
            judged(twelve, 12, 1, 0, 1, 2, 3, 4, 5, 6, 7, 8, 9, 10, 11, 0);
        }

        private static void wordBefore() {
            Checks.sentence(20, "in STANZA 0: a word that an END before it has;");
            EndsRound poem = Checks.of("ends 3;" + alike(3));
            judged(poem, 1, 1, 0, 0);
            judged(poem, 2, 1, 0, 1, 0);
            judged(poem, 2, 1, 0, 1, 1);
            judged(poem, -1, 0, 0, 1, 2, 0);
            EndsRound twelve = Checks.of("ends 12;" + alike(12));
            judged(twelve, 11, 1, 0, 1, 2, 3, 4, 5, 6, 7, 8, 9, 10, 0);
            judged(twelve, 11, 1, 0, 1, 2, 3, 4, 5, 6, 7, 8, 9, 10, 10);
            judged(twelve, -1, 0, 11, 10, 9, 8, 7, 6, 5, 4, 3, 2, 1, 0);
        }

        private static void rhyme() {
            Checks.sentence(20, "2 in STANZA 0: the word does not rhyme with one of an END before it that is of its CLASS;");
            EndsRound poem = Checks.of("ends 4;rhyme 0 3;" + words(1, 2, 3, 4, 1));
            judged(poem, -1, 0, 0, 1, 2, 4);
            judged(poem, 3, 2, 0, 1, 2, 3);
            judged(poem, -1, 0, 0, 1, 2);
            // The first of a class is before none of it, whatever comes behind.
            judged(poem, 3, 2, 3, 1, 2, 4);
            // One of the ends before is enough, be it the first or the last of its class.
            EndsRound three = Checks.of("ends 3;rhyme 0 1;rhyme 1 2;" + words(1, 2, 1, 2));
            judged(three, 1, 2, 0, 1, 2);
            judged(three, 2, 2, 0, 2, 1);
            EndsRound turned = Checks.of("ends 3;turn swap 0 1;rhyme 0 2;" + words(1, 1, 2));
            judged(turned, 1, 2, 0, 2);
            judged(turned, 2, 2, 0, 1, 2);
        }

        private static void whole() {
            Checks.sentence(20, "3 it is a line that comes again whole (its PLACE is told so, the STANZA's number a multiple of every)"
                + " and its TEXT is not that of this PLACE in STANZA 0;");
            for (int every : new int[] {1, 2, 58, 59, 60, 99}) {
                EndsRound poem = Checks.of("ends 1;whole 0 every " + every + ";" + alike(1));
                for (int stanza = 0; stanza < 60; stanza++) {
                    poem.line(0, stanza % every == 0 ? 999 : 0, 0);
                }
                Checks.due("judged(0) of every " + every, Checks.judged(poem, 0), -1);
                poem.clear();
                for (int stanza = 0; stanza < 60; stanza++) {
                    poem.line(0, stanza, 0);
                }
                Checks.due("judged(0) of others, every " + every, Checks.judged(poem, 0), every < 60 ? every : -1);
                Checks.due("judged(1) of others, every " + every, Checks.judged(poem, 1), every < 60 ? 3 : 0);
            }
            // The place counts, not the end that comes there; a place that is not told may say what it likes.
            EndsRound poem = Checks.of("ends 2;turn back;whole 1 every 1;" + alike(2));
            poem.line(0, 10, 0);
            poem.line(1, 11, 0);
            poem.line(1, 12, 0);
            poem.line(0, 11, 0);
            Checks.due("judged(0) of the place's text", Checks.judged(poem, 0), -1);
            poem.line(0, 10, 0);
            poem.line(1, 10, 0);
            Checks.due("judged(0) of the end's text", Checks.judged(poem, 0), 5);
            Checks.due("judged(1) of the end's text", Checks.judged(poem, 1), 3);
        }

        private static void feet() {
            Checks.sentence(20, "4 feet are told and its beats are others;");
            for (int feet : new int[] {1, 2, 98, 99}) {
                EndsRound poem = Checks.of("ends 1;feet " + feet + ";" + alike(1));
                for (int beats : new int[] {0, feet - 1, feet, Math.min(99, feet + 1), 99}) {
                    poem.clear();
                    poem.line(0, 0, beats);
                    Checks.due("judged(0) of " + beats + " for " + feet, Checks.judged(poem, 0), beats == feet ? -1 : 0);
                    Checks.due("judged(1) of " + beats + " for " + feet, Checks.judged(poem, 1), beats == feet ? 0 : 4);
                }
            }
            EndsRound none = Checks.of("ends 1;" + alike(1));
            none.line(0, 0, 0);
            none.line(0, 0, 99);
            Checks.due("judged(0) where no feet are told", Checks.judged(none, 0), -1);
            // The beats of the word are not those of the line.
            EndsRound nine = Checks.of("ends 1;feet 9;word a rhyme 1 beats 9 kind 1;");
            nine.line(0, 0, 1);
            Checks.due("judged(1) of the line's beats", Checks.judged(nine, 1), 4);
        }

        private static void bar() {
            Checks.sentence(20, "5 a bar's E is not 0 for the word of the LINE ahead in its STANZA and its own.");
            EndsRound poem = Checks.of("ends 2;turn back;bar sort=1 and next=0;" + alike(3));
            // The first line of a stanza has none ahead in it.
            judged(poem, -1, 0, 1);
            judged(poem, 1, 5, 1, 0);
            judged(poem, 3, 5, 0, 1, 1, 0);
            judged(poem, -1, 0, 2, 1, 1, 2);
            EndsRound still = Checks.of("ends 2;bar sort=1 and next=0;" + alike(2));
            judged(still, -1, 0, 0, 1, 0, 1, 0);
            EndsRound one = Checks.of("ends 1;bar 1;" + alike(1));
            judged(one, -1, 0, 0, 0, 0);
            EndsRound all = Checks.of("ends 12;bar 1;" + alike(12));
            judged(all, -1, 0, 5);
            judged(all, 1, 5, 5, 6);
            EndsRound last = Checks.of("ends 12;bar sort=10 and next=11;" + alike(12));
            judged(last, 11, 5, 0, 1, 2, 3, 4, 5, 6, 7, 8, 9, 10, 11);
            judged(last, -1, 0, 0, 1, 2, 3, 4, 5, 6, 7, 8, 9, 11, 10);
        }

        private static void firstThatHolds() {
            Checks.sentence(20, "JUDGED: the first LINE that is wrong, and why, the first that holds:");
            // Line 1 of stanza 0: all but 3 can hold; line 1 of stanza 1: all but 2.
            String feet = "feet 5;bar 1;";
            String form = "ends 2;rhyme 0 1;whole 1 every 1;" + feet + words(1, 1, 2);
            int[][] second = {{0, 4, 1}, {2, 4, 2}, {2, 5, 2}, {1, 4, 4}, {1, 5, 5}};
            for (int[] line : second) {
                EndsRound poem = Checks.of(form);
                poem.line(0, 0, 5);
                poem.line(line[0], 0, line[1]);
                Checks.due("judged(0) of a second line", Checks.judged(poem, 0), 1);
                Checks.due("judged(1) of a second line", Checks.judged(poem, 1), line[2]);
            }
            String next = "ends 2;turn back;rhyme 0 1;whole 1 every 1;feet 5;bar sort=1 and next=0;" + words(1, 1, 2);
            int[][] fourth = {{2, 9, 4, 1}, {2, 0, 5, 1}, {0, 9, 4, 3}, {0, 9, 5, 3}, {0, 0, 4, 4}, {0, 0, 5, 5}};
            for (int[] line : fourth) {
                EndsRound poem = Checks.of(next);
                poem.line(0, 0, 5);
                poem.line(1, 0, 5);
                poem.line(1, 0, 5);
                poem.line(line[0], line[1], line[2]);
                Checks.due("judged(0) of a fourth line", Checks.judged(poem, 0), 3);
                Checks.due("judged(1) of a fourth line", Checks.judged(poem, 1), line[3]);
            }
        }

        private static void firstLine() {
            Checks.sentence(20, "JUDGED: the first LINE that is wrong");
            EndsRound poem = Checks.of("ends 2;feet 5;" + alike(2));
            for (int wrong = 0; wrong < 60; wrong += 59) {
                poem.clear();
                for (int i = 0; i < 60; i++) {
                    poem.line(i % 2, 0, i < wrong ? 5 : 4);
                }
                Checks.due("judged(0), the line " + wrong, Checks.judged(poem, 0), wrong);
                Checks.due("judged(1), the line " + wrong, Checks.judged(poem, 1), 4);
            }
            // A line that is wrong later on for a worse reason is not the first.
            poem.clear();
            poem.line(0, 0, 4);
            poem.line(0, 0, 5);
            Checks.due("judged(0) of two", Checks.judged(poem, 0), 0);
            Checks.due("judged(1) of two", Checks.judged(poem, 1), 4);
        }
    }

    /** The fewest words to be changed. */
    private static final class Mended {
        private static void all() {
            sevenAtMost();
            notAtAll();
            fewest();
            barsDoNotCount();
            leastWords();
            endsWithoutLines();
            mendedOfOthers();
        }

        private static EndsRound draft(String form, int... words) {
            EndsRound poem = Checks.of(form);
            for (int word : words) {
                poem.line(word, 0, 0);
            }
            return poem;
        }

        private static void mended(EndsRound poem, String of, int fewest, int... given) {
            Checks.due("mend() of " + of, poem.mend(), fewest);
            for (int end = 0; end < given.length; end++) {
                Checks.due("mended(" + end + ") of " + of, poem.mended(end), given[end]);
            }
        }

        private static void sevenAtMost() {
            Checks.sentence(21, "words of the lexicon; with 7 ends at most)");
            mended(draft("ends 7;" + alike(7)), "7 ends", 0, 0, 1, 2, 3, 4, 5, 6);
            mended(draft("ends 7;" + alike(12), 11, 10, 9, 8, 7, 6, 5), "7 ends, the last words", 0, 11, 10, 9, 8, 7, 6, 5);
            for (int ends = 8; ends <= 12; ends++) {
                mended(draft("ends " + ends + ";" + alike(12)), ends + " ends", -1, -1, -1, -1, -1, -1, -1, -1, -1);
                mended(draft("ends " + ends + ";" + alike(12), 0, 1), ends + " ends, 2 lines", -1, -1, -1);
            }
        }

        private static void notAtAll() {
            Checks.sentence(21, "MEND: how many LINES; NONE: not at all, more than 7 ends.");
            mended(new EndsRound(), "a new object", -1, -1);
            mended(draft("ends 1;" + alike(1)), "one end, one word", 0, 0);
            mended(draft("ends 2;" + alike(1)), "two ends, one word", -1, -1, -1);
            mended(draft("ends 7;" + alike(6), 0, 1, 2, 3, 4, 5), "seven ends, six words", -1, -1);
            mended(draft("ends 2;rhyme 0 1;" + words(1, 2, 3, 4)), "no two words that rhyme", -1, -1, -1);
            mended(draft("ends 2;rhyme 0 1;" + words(1, 2, 3, 1)), "two words that rhyme", 0, 0, 3);
            mended(draft("ends 7;turn shift 1;rhyme 0 1;" + words(1, 1, 1, 1, 1, 1, 2, 2, 2, 2, 2, 2)), "six of each rhyme", -1, -1);
        }

        private static void fewest() {
            Checks.sentence(21, "MEND: the fewest LINES whose words have to be changed so that each END has one word in all its LINES");
            EndsRound full = Checks.of("ends 1;" + alike(2));
            for (int i = 0; i < 60; i++) {
                full.line(i < 30 ? 1 : 0, 0, 0);
                Checks.due("mend() of " + (i + 1) + " lines", full.mend(), Math.min(Math.max(0, i - 29), 30));
                Checks.due("mended(0) of " + (i + 1) + " lines", full.mended(0), i < 59 ? 1 : 0);
            }
            // All 60 lines say what only one end may have.
            mended(draft("ends 2;rhyme 0 1;" + words(1, 2, 2), new int[60]), "60 lines of no use", 60, 1, 2);
            mended(draft("ends 7;" + alike(7), new int[60]), "60 lines of one word", 60 - 9, 0, 1, 2, 3, 4, 5, 6);
            mended(draft("ends 2;turn back;" + alike(2), 0, 1, 1, 0), "two stanzas as they are", 0, 0, 1);
            mended(draft("ends 2;turn back;" + alike(2), 0, 1, 0, 1), "two stanzas that do not turn", 2, 0, 1);
        }

        private static void barsDoNotCount() {
            Checks.sentence(21, "(bars, TEXTS, beats do not count; words of the lexicon");
            EndsRound poem = Checks.of("ends 2;whole 0 every 1;feet 9;bar 1;" + alike(2));
            poem.line(1, 0, 0);
            poem.line(0, 1, 1);
            poem.line(1, 2, 2);
            mended(poem, "all wrong but the words", 0, 1, 0);
            Checks.due("judged(0)", Checks.judged(poem, 0), 0);
        }

        private static void leastWords() {
            Checks.sentence(21, "of equal ones the least words from END 0 on (ENDS without LINES, too).");
            mended(draft("ends 2;" + alike(12), 11, 11), "the last word twice", 1, 0, 11);
            mended(draft("ends 2;" + alike(2), 1, 1), "the last of two twice", 1, 0, 1);
            mended(draft("ends 2;turn back;" + alike(3), 2, 2, 2, 2), "four of one word", 2, 0, 2);
            mended(draft("ends 1;" + alike(12), 11, 10), "two words of one end", 1, 10);
            mended(draft("ends 7;rhyme 0 6;" + words(1, 2, 3, 4, 5, 6, 7, 8, 2, 1), 0, 2, 3, 4, 5, 6, 1), "a class that is parted", 1, 0, 2, 3, 4,
                5, 6, 9);
        }

        private static void endsWithoutLines() {
            Checks.sentence(21, "(ENDS without LINES, too)");
            mended(draft("ends 7;" + alike(12)), "no line", 0, 0, 1, 2, 3, 4, 5, 6);
            mended(draft("ends 7;" + alike(12), 3), "one line", 0, 3, 0, 1, 2, 4, 5, 6);
            mended(draft("ends 3;rhyme 0 2;" + words(1, 2, 3, 3), 0), "one line that has to go", 1, 2, 0, 3);
            mended(draft("ends 3;rhyme 0 2;" + words(1, 2, 3, 3), 3), "one line that may stay", 0, 3, 0, 2);
        }

        private static void mendedOfOthers() {
            Checks.sentence(22, "The word of an END when it is mended; NONE: others, as of mend().");
            EndsRound seven = draft("ends 7;" + alike(12), 11);
            for (int end : Checks.outside(7)) {
                Checks.due("mended(" + end + ") of 7 ends", seven.mended(end), -1);
            }
            Checks.due("mended(0) of 7 ends", seven.mended(0), 11);
            Checks.due("mended(6) of 7 ends", seven.mended(6), 5);
            EndsRound eight = draft("ends 8;" + alike(12));
            EndsRound none = draft("ends 7;" + alike(6));
            for (int end = -1; end <= 12; end++) {
                Checks.due("mended(" + end + ") of 8 ends", eight.mended(end), -1);
                Checks.due("mended(" + end + ") of too few words", none.mended(end), -1);
            }
            Checks.due("form()", Checks.read(seven, "ends 1;" + alike(1)), 0);
            Checks.due("mended(0) of one end", seven.mended(0), 0);
            Checks.due("mended(1) of one end", seven.mended(1), -1);
        }
    }
}
