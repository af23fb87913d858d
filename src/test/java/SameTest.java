/** Promises 23 to 25: forms that are the same, renamed places, marks. */
final class SameTest {
    public static void main(String[] args) {
        marks();
        turnings();
        rhymesAndWholes();
        backAgain();
        hard();
        Checks.end();
    }

    private static void marks() {
        EndsRound poem = Checks.of("ends 2;turn back;word a rhyme 1 beats 1 kind 1;");
        poem.line(0, 7, 7);
        for (int mark = -2; mark < 6; mark++) {
            boolean there = mark >= 0 && mark < 4;
            Checks.due("back to nothing " + mark, poem.mark(mark, true), false);
            Checks.due("same as nothing " + mark, poem.same(mark), -1);
            Checks.due("renamed as nothing " + mark, poem.renamed(mark, 0), -1);
            Checks.due("lay " + mark, poem.mark(mark, false), there);
            Checks.due("same as itself " + mark, poem.same(mark), there ? 1 : -1);
        }
        Checks.read(poem, "ends 3;word a rhyme 2 beats 2 kind 2;word b rhyme 1 beats 1 kind 1;");
        poem.line(1, 0, 0);
        poem.line(0, 0, 0);
        Checks.due("marks stay behind a form", poem.same(0), 0);
        Checks.due("lay again", poem.mark(3, false), true);
        Checks.feed(poem, "ends 5;");
        Checks.due("back", poem.mark(1, true), true);
        Checks.due("ends", poem.count(0), 2);
        Checks.due("steps", poem.count(1), 1);
        Checks.due("lines", poem.count(7), 1);
        Checks.due("words", poem.word(0, 0), 1);
        Checks.due("turning", poem.turning(0, 0), 1);
        Checks.due("the tape stays", poem.count(8), 7);
        poem.line(0, 0, 0);
        Checks.due("the mark's lines stay", poem.mark(1, true), true);
        Checks.due("lines of the mark", poem.count(7), 1);
        Checks.due("back to the other", poem.mark(3, true), true);
        Checks.due("its ends", poem.count(0), 3);
        Checks.due("its lines", poem.count(7), 2);
        Checks.due("its words", poem.word(0, 2), 2);
        Checks.due("read what is left", poem.form(), 0);
        Checks.due("five ends", poem.count(0), 5);
        Checks.due("a draft is empty behind a form", poem.count(7), 0);
    }

    /** Whether one form is the same as another one, and the names of its places there. */
    private static void same(String here, String there, int... names) {
        EndsRound poem = Checks.of(there);
        poem.mark(1, false);
        Checks.due("form of '" + here + "'", Checks.read(poem, here), 0);
        String name = here + " as " + there;
        Checks.due(name, poem.same(1), names.length > 0 ? 1 : 0);
        for (int place = 0; place < poem.count(0); place++) {
            Checks.due(name + " renamed(" + place + ")", poem.renamed(1, place), names.length > 0 ? names[place] : -1);
        }
        Checks.due(name + " renamed(-1)", poem.renamed(1, -1), -1);
        Checks.due(name + " renamed of no place", poem.renamed(1, poem.count(0)), -1);
        Checks.due(name + " renamed of no mark", poem.renamed(4, 0), -1);
        Checks.due(name + " of an empty mark", poem.same(2), -1);
    }

    private static void turnings() {
        same("ends 3;", "ends 2;");
        same("ends 2;", "ends 3;");
        same("ends 3;", "ends 3;", 0, 1, 2);
        same("ends 3;turn back;", "ends 3;turn swap 1 2;", 1, 0, 2);
        same("ends 3;turn swap 1 2;", "ends 3;turn back;", 1, 0, 2);
        same("ends 3;turn shift 1;", "ends 3;turn shift 2;", 0, 2, 1);
        same("ends 4;turn shift 1;", "ends 4;turn spiral;");
        same("ends 4;turn shift 2;", "ends 4;turn back;", 0, 1, 3, 2);
        same("ends 6;turn spiral;", "ends 6;turn shift 1;", 0, 1, 4, 2, 3, 5);
    }

    private static void rhymesAndWholes() {
        same("ends 3;rhyme 0 1;", "ends 3;rhyme 1 2;", 1, 2, 0);
        same("ends 3;rhyme 0 1;rhyme 1 0;feet 3;bar 1;", "ends 3;rhyme 2 1;word a rhyme 1 beats 1 kind 1;", 1, 2, 0);
        same("ends 3;rhyme 0 1;rhyme 1 2;", "ends 3;rhyme 0 1;rhyme 0 2;", 1, 0, 2);
        // Lines told count, not what hangs together by them.
        same("ends 3;rhyme 0 1;rhyme 1 2;rhyme 0 2;", "ends 3;rhyme 0 1;rhyme 0 2;");
        same("ends 3;rhyme 0 1;rhyme 0 2;", "ends 3;rhyme 0 1;rhyme 1 2;rhyme 0 2;");
        same("ends 3;rhyme 0 1;", "ends 3;");
        same("ends 3;", "ends 3;rhyme 0 1;");
        same("ends 3;whole 0 every 2;", "ends 3;whole 2 every 2;", 2, 0, 1);
        same("ends 3;whole 0 every 2;", "ends 3;whole 2 every 3;");
        same("ends 3;whole 0 every 2;", "ends 3;");
        same("ends 3;", "ends 3;whole 0 every 2;");
        same("ends 3;whole 0 every 1;whole 1 every 2;", "ends 3;whole 0 every 2;whole 2 every 1;", 2, 0, 1);
        same("ends 4;turn back;whole 0 every 1;", "ends 4;turn swap 0 1 swap 2 3;whole 2 every 1;", 2, 0, 1, 3);
        same("ends 4;turn back;whole 0 every 1;rhyme 0 3;", "ends 4;turn swap 0 1 swap 2 3;whole 2 every 1;rhyme 2 3;", 2, 0, 1, 3);
        same("ends 4;turn back;whole 0 every 1;rhyme 0 3;", "ends 4;turn swap 0 1 swap 2 3;whole 2 every 1;rhyme 1 3;");
        same("ends 4;turn shift 1;rhyme 0 1;", "ends 4;turn shift 1;rhyme 0 2;");
        same("ends 4;turn shift 1;rhyme 0 1;", "ends 4;turn shift 1;rhyme 0 3;", 3, 0, 1, 2);
    }

    /** Forms where the least name that fits a place is not one that all the others fit to. */
    private static void backAgain() {
        same("ends 12;rhyme 0 2;rhyme 2 3;rhyme 3 4;rhyme 4 1;rhyme 1 5;rhyme 5 6;rhyme 6 7;rhyme 7 0;",
            "ends 12;rhyme 0 1;rhyme 1 2;rhyme 2 3;rhyme 3 4;rhyme 4 5;rhyme 5 6;rhyme 6 7;rhyme 7 0;",
            0, 4, 1, 2, 3, 5, 6, 7, 8, 9, 10, 11);
    }

    /** Forms that a search through all orders of places would not end on. */
    private static void hard() {
        same("ends 12;whole 11 every 2;", "ends 12;whole 11 every 3;");
        same("ends 12;rhyme 6 7;rhyme 7 8;rhyme 8 9;rhyme 9 10;rhyme 10 11;rhyme 11 6;",
            "ends 12;rhyme 0 1;rhyme 1 2;rhyme 2 0;rhyme 3 4;rhyme 4 5;rhyme 5 3;");
        same("ends 12;rhyme 4 5;rhyme 5 6;rhyme 6 7;rhyme 7 8;rhyme 8 9;rhyme 9 10;rhyme 10 11;rhyme 11 4;",
            "ends 12;rhyme 0 1;rhyme 1 2;rhyme 2 3;rhyme 3 0;rhyme 4 5;rhyme 5 6;rhyme 6 7;rhyme 7 4;");
        same("ends 12;rhyme 8 9;rhyme 10 11;whole 8 every 2;whole 9 every 2;",
            "ends 12;rhyme 8 9;rhyme 10 11;whole 8 every 2;whole 10 every 2;");
        same("ends 12;rhyme 8 9;rhyme 10 11;whole 8 every 2;whole 10 every 2;",
            "ends 12;rhyme 0 1;rhyme 2 3;whole 1 every 2;whole 2 every 2;", 4, 5, 6, 7, 8, 9, 10, 11, 1, 0, 2, 3);
    }
}
