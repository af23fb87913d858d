/** The boundaries of promises 23 to 26, forms that are the same, marks and counts; each test is of one sentence. */
final class BoundsMarksTest {
    public static void main(String[] args) {
        sameTurning();
        sameRhymes();
        sameWholes();
        firstRenaming();
        nothingOnIt();
        renamedOfOthers();
        formAndDraft();
        wordsTextsBeats();
        laid();
        noneSuch();
        back();
        counts();
        countOfOthers();
        Checks.end();
    }

    private static String alike(int many) {
        return BoundsWordsTest.alike(many);
    }

    /** Whether one form is the same as that of a mark, and the names of its places there. */
    private static void same(String here, String there, int... names) {
        for (int mark = 0; mark < 4; mark += 3) {
            EndsRound poem = Checks.of(there);
            poem.mark(mark, false);
            Checks.due("form() of " + here, Checks.read(poem, here), 0);
            String as = here + " as " + there;
            Checks.due("same(" + mark + ") of " + as, poem.same(mark), names.length > 0 ? 1 : 0);
            for (int place = 0; place < poem.count(0); place++) {
                Checks.due("renamed(" + mark + ", " + place + ") of " + as, poem.renamed(mark, place), names.length > 0 ? names[place] : -1);
            }
        }
    }

    private static void sameTurning() {
        Checks.sentence(23, "if there is a RENAMING of PLACES by which the TURNING of the one is that of the other one");
        same("ends 1;", "ends 1;turn back;", 0);
        same("ends 12;", "ends 12;turn shift 0;", 0, 1, 2, 3, 4, 5, 6, 7, 8, 9, 10, 11);
        same("ends 12;turn shift 1;", "ends 12;turn shift 11;", 0, 11, 10, 9, 8, 7, 6, 5, 4, 3, 2, 1);
        same("ends 2;turn back;", "ends 2;turn swap 1 0;", 0, 1);
        same("ends 2;turn back;", "ends 2;");
        same("ends 2;", "ends 2;turn back;");
        same("ends 1;", "ends 2;");
        same("ends 2;", "ends 1;");
        same("ends 11;", "ends 12;");
        same("ends 12;", "ends 11;");
        same("ends 12;turn shift 6;", "ends 12;turn back;", 0, 1, 2, 3, 4, 5, 11, 10, 9, 8, 7, 6);
        same("ends 12;turn shift 6;", "ends 12;turn shift 4;");
        same("ends 12;turn swap 0 11;", "ends 12;turn swap 4 7;", 4, 0, 1, 2, 3, 5, 6, 8, 9, 10, 11, 7);
    }

    private static void sameRhymes() {
        Checks.sentence(23, "PLACES that rhyme (by their lines told) are such there");
        same("ends 12;rhyme 0 11;", "ends 12;rhyme 11 0;", 0, 1, 2, 3, 4, 5, 6, 7, 8, 9, 10, 11);
        same("ends 2;rhyme 0 1;", "ends 2;");
        same("ends 2;", "ends 2;rhyme 0 1;");
        same("ends 3;rhyme 0 1;rhyme 0 1;", "ends 3;rhyme 2 1;", 1, 2, 0);
        same("ends 4;rhyme 0 1;rhyme 2 3;", "ends 4;rhyme 0 1;rhyme 1 2;");
        same("ends 4;rhyme 0 1;", "ends 4;rhyme 0 1;rhyme 2 3;");
        // A turning that parts what rhymes is another one than a turning that changes it.
        same("ends 4;turn swap 0 1;rhyme 0 1;", "ends 4;turn swap 2 3;rhyme 3 2;", 2, 3, 0, 1);
        same("ends 4;turn swap 0 1;rhyme 0 1;", "ends 4;turn swap 2 3;rhyme 0 3;");
        same("ends 12;rhyme 0 1;rhyme 1 2;rhyme 2 3;rhyme 3 0;rhyme 4 5;rhyme 5 6;rhyme 6 7;rhyme 7 4;",
            "ends 12;rhyme 0 1;rhyme 1 2;rhyme 2 3;rhyme 3 4;rhyme 4 5;rhyme 5 6;rhyme 6 7;rhyme 7 0;");
    }

    private static void sameWholes() {
        Checks.sentence(23, "and lines that come again whole are so, as often;");
        same("ends 1;whole 0 every 99;", "ends 1;whole 0 every 99;", 0);
        same("ends 1;whole 0 every 99;", "ends 1;whole 0 every 98;");
        same("ends 1;whole 0 every 1;", "ends 1;");
        same("ends 1;", "ends 1;whole 0 every 1;");
        same("ends 12;whole 11 every 5;", "ends 12;whole 0 every 5;", 1, 2, 3, 4, 5, 6, 7, 8, 9, 10, 11, 0);
        same("ends 3;whole 0 every 1;whole 2 every 2;", "ends 3;whole 0 every 2;whole 2 every 1;", 2, 1, 0);
        same("ends 3;whole 0 every 1;whole 2 every 1;", "ends 3;whole 0 every 2;whole 2 every 1;");
        same("ends 2;whole 0 every 1;whole 1 every 1;", "ends 2;whole 0 every 1;");
        // What else is told does not count: feet, words and bars.
        same("ends 2;feet 1;" + alike(1) + "bar 1;", "ends 2;feet 2;", 0, 1);
    }

    private static void firstRenaming() {
        Checks.sentence(24, "of all the first (PLACE 0's name the least, then PLACE 1's, ..).");
        same("ends 12;", "ends 12;", 0, 1, 2, 3, 4, 5, 6, 7, 8, 9, 10, 11);
        same("ends 12;turn shift 1;", "ends 12;turn shift 1;", 0, 1, 2, 3, 4, 5, 6, 7, 8, 9, 10, 11);
        same("ends 12;rhyme 0 1;", "ends 12;rhyme 10 11;", 10, 11, 0, 1, 2, 3, 4, 5, 6, 7, 8, 9);
        same("ends 12;rhyme 10 11;", "ends 12;rhyme 0 1;", 2, 3, 4, 5, 6, 7, 8, 9, 10, 11, 0, 1);
        same("ends 4;rhyme 0 1;rhyme 2 3;", "ends 4;rhyme 0 2;rhyme 1 3;", 0, 2, 1, 3);
        same("ends 4;turn back;", "ends 4;turn swap 0 1 swap 2 3;", 0, 2, 3, 1);
        same("ends 4;turn shift 1;whole 0 every 1;", "ends 4;turn shift 1;whole 3 every 1;", 3, 0, 1, 2);
        // The least name that place 1 could have leaves none for the others.
        same("ends 12;rhyme 0 2;rhyme 2 3;rhyme 3 4;rhyme 4 1;rhyme 1 5;rhyme 5 6;rhyme 6 7;rhyme 7 0;",
            "ends 12;rhyme 0 1;rhyme 1 2;rhyme 2 3;rhyme 3 4;rhyme 4 5;rhyme 5 6;rhyme 6 7;rhyme 7 0;",
            0, 4, 1, 2, 3, 5, 6, 7, 8, 9, 10, 11);
    }

    private static void nothingOnIt() {
        Checks.sentence(23, "SAME as the FORM of a MARK: 1 or 0; NONE: nothing is on it.");
        EndsRound poem = new EndsRound();
        for (int mark = 0; mark < 4; mark++) {
            for (int other : Checks.outside(4)) {
                Checks.due("same(" + other + ") with " + mark + " marks", poem.same(other), -1);
            }
            for (int other = mark; other < 4; other++) {
                Checks.due("same(" + other + ") with " + mark + " marks", poem.same(other), -1);
            }
            Checks.due("mark(" + mark + ", false)", poem.mark(mark, false), true);
            Checks.due("same(" + mark + ")", poem.same(mark), 1);
        }
    }

    private static void renamedOfOthers() {
        Checks.sentence(24, "The name that a PLACE has there by the first RENAMING; NONE: others, not SAME.");
        EndsRound poem = Checks.of("ends 12;turn back;");
        poem.mark(0, false);
        poem.mark(3, false);
        for (int place : Checks.outside(12)) {
            Checks.due("renamed(0, " + place + ")", poem.renamed(0, place), -1);
            Checks.due("renamed(3, " + place + ")", poem.renamed(3, place), -1);
        }
        for (int mark : Checks.outside(4)) {
            Checks.due("renamed(" + mark + ", 0)", poem.renamed(mark, 0), -1);
            Checks.due("renamed(" + mark + ", -1)", poem.renamed(mark, -1), -1);
        }
        Checks.due("renamed(1, 0) with nothing on it", poem.renamed(1, 0), -1);
        Checks.due("renamed(0, 11)", poem.renamed(0, 11), 11);
        Checks.due("form() of fewer ends", Checks.read(poem, "ends 11;turn back;"), 0);
        Checks.due("renamed(0, 0), not the same", poem.renamed(0, 0), -1);
        Checks.due("renamed(0, 11), not the same", poem.renamed(0, 11), -1);
        Checks.due("form() of another turning", Checks.read(poem, "ends 12;"), 0);
        Checks.due("renamed(3, 11), not the same", poem.renamed(3, 11), -1);
        Checks.due("form() of the same", Checks.read(poem, "ends 12;turn swap 0 11 swap 1 10 swap 2 9 swap 3 8 swap 4 7 swap 5 6;"), 0);
        Checks.due("renamed(3, 11), the same again", poem.renamed(3, 11), 11);
    }

    private static void formAndDraft() {
        Checks.sentence(25, "MARKS 0 to 3 hold the FORM and the DRAFT as they are.");
        EndsRound poem = new EndsRound();
        int[] why = {0, 5, 5, 1};
        // Each mark holds a form and a draft of its own, the last one the fullest.
        for (int mark = 0; mark < 4; mark++) {
            String text = "ends " + (3 * mark + 1) + ";turn shift " + mark + ";" + alike(4 * mark) + "bar sort=" + mark + ";feet "
                + (mark + 1) + ";whole 0 every 1;" + (mark > 0 ? "rhyme 0 1;" : "");
            Checks.due("form() " + mark, Checks.read(poem, text), 0);
            for (int i = 0; i < 20 * mark; i++) {
                poem.line(i % 4, i, mark + 1);
            }
            Checks.due("mark(" + mark + ", false)", poem.mark(mark, false), true);
            Checks.due("the mark is laid, all else stays", poem.count(7), 20 * mark);
        }
        Checks.due("form() of another", Checks.read(poem, "ends 1;word a rhyme 9 beats 9 kind 9;"), 0);
        poem.line(0, 9, 9);
        for (int mark = 3; mark >= 0; mark--) {
            Checks.due("mark(" + mark + ", true)", poem.mark(mark, true), true);
            int[] want = {3 * mark + 1, 1, mark > 0 ? 1 : 0, 1, mark + 1, 4 * mark, 1, 20 * mark};
            for (int what = 0; what < want.length; what++) {
                Checks.due("count(" + what + ") of the mark " + mark, poem.count(what), want[what]);
            }
            Checks.due("turning(0, 0) of the mark " + mark, poem.turning(0, 0), mark);
            Checks.due("rhymes(1) of the mark " + mark, poem.rhymes(1), mark > 0 ? 0 : -1);
            Checks.due("word(3, 2) of the mark " + mark, poem.word(3, 2), mark > 0 ? 3 : -1);
            Checks.due("barred(" + mark + ", 0) of the mark", poem.barred(mark, 0), mark > 0 ? 1 : -1);
            Checks.due("barred(0, 1) of the mark", poem.barred(0, 1), mark > 0 ? 0 : -1);
            Checks.due("judged(1) of the mark " + mark, Checks.judged(poem, 1), why[mark]);
            Checks.due("same(" + mark + ")", poem.same(mark), 1);
        }
    }

    private static void wordsTextsBeats() {
        Checks.sentence(25, "MARKS 0 to 3 hold the FORM and the DRAFT as they are.");
        EndsRound poem = Checks.of("ends 1;whole 0 every 1;feet 9;" + alike(12));
        int[][] second = {{11, 999, 9}, {10, 999, 9}, {11, 998, 9}, {11, 999, 8}};
        int[] why = {0, 1, 3, 4};
        for (int mark = 0; mark < 4; mark++) {
            poem.clear();
            poem.line(11, 999, 9);
            poem.line(second[mark][0], second[mark][1], second[mark][2]);
            Checks.due("mark(" + mark + ", false)", poem.mark(mark, false), true);
        }
        poem.clear();
        poem.line(0, 0, 0);
        poem.line(0, 0, 0);
        Checks.due("mend()", poem.mend(), 0);
        Checks.due("mended(0)", poem.mended(0), 0);
        for (int mark = 0; mark < 4; mark++) {
            Checks.due("mark(" + mark + ", true)", poem.mark(mark, true), true);
            Checks.due("judged(1) of the mark " + mark, Checks.judged(poem, 1), why[mark]);
            Checks.due("mend() of the mark " + mark, poem.mend(), mark == 1 ? 1 : 0);
            Checks.due("mended(0) of the mark " + mark, poem.mended(0), mark == 1 ? 10 : 11);
        }
    }

    private static void laid() {
        Checks.sentence(25, "A MARK is laid (back: gone back to): true;");
        EndsRound poem = Checks.of("ends 2;turn back;" + alike(2));
        poem.line(0, 0, 0);
        poem.mark(0, false);
        // What comes behind does not change it, a new one in its place does.
        poem.line(1, 0, 0);
        poem.clear();
        poem.line(1, 0, 0);
        Checks.due("mark(0, true)", poem.mark(0, true), true);
        Checks.due("count(7) of the mark", poem.count(7), 1);
        poem.line(1, 0, 0);
        Checks.due("mark(0, true) again", poem.mark(0, true), true);
        Checks.due("count(7) of the mark again", poem.count(7), 1);
        Checks.due("form() of three", Checks.read(poem, "ends 3;"), 0);
        Checks.due("same(0): marks stay", poem.same(0), 0);
        Checks.due("mark(0, false) again", poem.mark(0, false), true);
        Checks.due("same(0) as the new one", poem.same(0), 1);
        Checks.due("form() of two", Checks.read(poem, "ends 2;turn back;"), 0);
        Checks.due("mark(0, true) to the new one", poem.mark(0, true), true);
        Checks.due("count(0)", poem.count(0), 3);
        Checks.due("count(7)", poem.count(7), 0);
        Checks.feed(poem, "ends 5;");
        Checks.due("mark(0, true) with a tape", poem.mark(0, true), true);
        Checks.due("count(8): the tape is not held", poem.count(8), 7);
        Checks.due("form() of the tape", poem.form(), 0);
        Checks.due("count(0)", poem.count(0), 5);
    }

    private static void noneSuch() {
        Checks.sentence(25, "false: none such");
        EndsRound poem = Checks.of("ends 2;" + alike(2));
        poem.line(1, 0, 0);
        for (int mark : Checks.outside(4)) {
            Checks.due("mark(" + mark + ", false)", poem.mark(mark, false), false);
            Checks.due("mark(" + mark + ", true)", poem.mark(mark, true), false);
        }
        for (int mark = 0; mark < 4; mark++) {
            Checks.due("same(" + mark + "): none is laid", poem.same(mark), -1);
            Checks.due("mark(" + mark + ", false)", poem.mark(mark, false), true);
        }
        for (int mark : Checks.outside(4)) {
            Checks.due("mark(" + mark + ", true) when all are laid", poem.mark(mark, true), false);
        }
        Checks.due("count(0): all stays", poem.count(0), 2);
        Checks.due("count(7): all stays", poem.count(7), 1);
    }

    private static void back() {
        Checks.sentence(25, "nothing is on it (back).");
        for (int laid = 0; laid < 4; laid++) {
            EndsRound poem = Checks.of("ends 2;" + alike(2));
            poem.line(1, 0, 0);
            poem.mark(laid, false);
            poem.line(0, 0, 0);
            for (int mark = 0; mark < 4; mark++) {
                if (mark != laid) {
                    Checks.due("mark(" + mark + ", true), laid is " + laid, poem.mark(mark, true), false);
                    Checks.due("count(7): all stays", poem.count(7), 2);
                }
            }
            Checks.due("mark(" + laid + ", true)", poem.mark(laid, true), true);
            Checks.due("count(7) of the mark", poem.count(7), 1);
        }
    }

    private static void counts() {
        Checks.sentence(26, "What 0: ends, 1: STEPS, 2: lines with rhyme, 3: with whole, 4: feet (0: none), 5: words, 6: bars, 7: LINES,"
            + " 8: signs on the TAPE.");
        EndsRound poem = new EndsRound();
        int[] least = {1, 0, 0, 0, 0, 0, 0, 0, 0};
        for (int what = 0; what < least.length; what++) {
            Checks.due("count(" + what + ") of a new object", poem.count(what), least[what]);
        }
        StringBuilder text = new StringBuilder("ends 12;turn" + " back".repeat(8) + ";" + "rhyme 0 1;".repeat(8) + "feet 99;" + alike(12)
            + "bar 0;".repeat(4));
        for (int place = 0; place < 12; place++) {
            text.append("whole ").append(place).append(" every 1;");
        }
        Checks.due("form() of the most", Checks.read(poem, text.toString()), 0);
        for (int i = 0; i < 61; i++) {
            poem.line(0, 0, 0);
        }
        Checks.feed(poem, " ".repeat(1001));
        int[] most = {12, 8, 8, 12, 99, 12, 4, 60, 1000};
        for (int what = 0; what < most.length; what++) {
            Checks.due("count(" + what + ") of the most", poem.count(what), most[what]);
        }
        // Lines of rhyme are counted as they are told, steps in all their lines.
        EndsRound other = Checks.of("ends 2;rhyme 0 1;turn back;rhyme 1 0;turn back back;");
        Checks.due("count(1)", other.count(1), 3);
        Checks.due("count(2)", other.count(2), 2);
    }

    private static void countOfOthers() {
        Checks.sentence(26, "8: signs on the TAPE. NONE for another what.");
        for (EndsRound poem : new EndsRound[] {new EndsRound(), Checks.of("ends 12;feet 99;" + alike(12))}) {
            for (int what : Checks.outside(9)) {
                Checks.due("count(" + what + ")", poem.count(what), -1);
            }
        }
    }
}
