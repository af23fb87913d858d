/** Promises 4 to 10: the turning, ends and places of a stanza, rounds, roots, spirals. */
final class TurningTest {
    public static void main(String[] args) {
        steps();
        sestina();
        farStanzas();
        rounds();
        roots();
        spirals();
        Checks.end();
    }

    /** Each place of the next stanza, by where it has it from. */
    private static void turns(String text, int... from) {
        EndsRound poem = Checks.of("ends " + from.length + ";" + text);
        for (int place = 0; place < from.length; place++) {
            Checks.due(text + " turning(" + place + ", 1)", poem.turning(place, 1), from[place]);
            Checks.due(text + " turning(" + from[place] + ", 0)", poem.turning(from[place], 0), place);
            Checks.due(text + " end(1, " + place + ")", poem.end(1, place), from[place]);
        }
    }

    private static void steps() {
        turns("", 0, 1, 2);
        turns("turn spiral;", 4, 0, 3, 1, 2);
        turns("turn spiral;", 5, 0, 4, 1, 3, 2);
        turns("turn back;", 3, 2, 1, 0);
        turns("turn halves;", 0, 3, 1, 4, 2);
        turns("turn halves;", 0, 3, 1, 4, 2, 5);
        turns("turn thirds;", 0, 1);
        turns("turn thirds;", 0, 3, 1, 2);
        turns("turn thirds;", 0, 3, 1, 4, 2);
        turns("turn thirds;", 0, 3, 1, 4, 2, 5);
        turns("turn thirds;", 0, 3, 6, 1, 4, 7, 2, 5);
        turns("turn shift 0;", 0, 1, 2);
        turns("turn shift 1;", 2, 0, 1);
        turns("turn shift 11;", 1, 2, 0);
        turns("turn swap 0 2;", 2, 1, 0);
        turns("turn shift 1 swap 0 1;", 0, 2, 1);
        turns("turn swap 0 1;turn shift 1;", 2, 1, 0);
        turns("turn spiral back;", 1, 2, 0, 3);
        turns("turn spiral halves thirds shift 5 swap 0 0011 back;feet 1;", 2, 10, 8, 6, 1, 3, 11, 5, 9, 7, 0, 4);
        turns("turn back;turn shift 7 spiral thirds halves;", 0);
    }

    private static void sestina() {
        EndsRound poem = Checks.of("ends 6;turn spiral;");
        for (int place = 0; place < 6; place++) {
            Checks.due("cycle of " + place, poem.turning(place, 2), 6);
        }
        Checks.due("turning of another what", poem.turning(0, 3), -1);
        Checks.due("turning of what -1", poem.turning(0, -1), -1);
        Checks.due("turning of no place", poem.turning(6, 1), -1);
        Checks.due("turning of place -1", poem.turning(-1, 1), -1);
        int[][] stanzas = {{0, 1, 2, 3, 4, 5}, {5, 0, 4, 1, 3, 2}, {2, 5, 3, 0, 1, 4}, {4, 2, 1, 5, 0, 3}, {3, 4, 0, 2, 5, 1},
            {1, 3, 5, 4, 2, 0}};
        for (int stanza = 0; stanza < 12; stanza++) {
            for (int place = 0; place < 6; place++) {
                int end = stanzas[stanza % 6][place];
                Checks.due("end(" + stanza + ", " + place + ")", poem.end(stanza, place), end);
                Checks.due("where(" + stanza + ", " + end + ")", poem.where(stanza, end), place);
                Checks.due("meets(" + end + ", " + place + ")", poem.meets(end, place), stanza % 6);
            }
        }
    }

    private static void farStanzas() {
        EndsRound poem = Checks.of("ends 5;turn swap 0 1 swap 2 3 swap 3 4;");
        long last = 1000000000000000L;
        Checks.due("last stanza of a pair", poem.end(last, 0), 0);
        Checks.due("last but one of a pair", poem.end(last - 1, 0), 1);
        Checks.due("last stanza of three", poem.end(last, 2), poem.end(last % 3, 2));
        Checks.due("last stanza of three is another", poem.end(last, 2) == 2, false);
        Checks.due("where in the last", poem.where(last, poem.end(last, 3)), 3);
        Checks.due("end beyond", poem.end(last + 1, 0), -1);
        Checks.due("end before", poem.end(-1, 0), -1);
        Checks.due("end of no place", poem.end(0, 5), -1);
        Checks.due("end of place -1", poem.end(0, -1), -1);
        Checks.due("where beyond", poem.where(last + 1, 0), -1);
        Checks.due("where before", poem.where(Long.MIN_VALUE, 0), -1);
        Checks.due("where of no end", poem.where(0, 5), -1);
        Checks.due("where of end -1", poem.where(0, -1), -1);
        Checks.due("meets never", poem.meets(0, 2), -1);
        Checks.due("meets at once", poem.meets(4, 4), 0);
        Checks.due("meets of no end", poem.meets(5, 0), -1);
        Checks.due("meets of no place", poem.meets(0, 5), -1);
        Checks.due("meets of end -1", poem.meets(-1, 0), -1);
    }

    private static void rounds(String text, int... want) {
        EndsRound poem = Checks.of(text);
        for (int what = 0; what < 5; what++) {
            Checks.due(text + " round(" + what + ")", poem.round(what), want[what]);
        }
        Checks.due(text + " round(5)", poem.round(5), -1);
        Checks.due(text + " round(-1)", poem.round(-1), -1);
    }

    private static void rounds() {
        rounds("ends 12;", 1, 12, 1, 12, 0);
        rounds("ends 2;turn back;", 2, 1, 2, 0, 1);
        rounds("ends 7;turn back;", 2, 4, 2, 1, 1);
        rounds("ends 6;turn shift 2;", 3, 2, 3, 0, 0);
        rounds("ends 12;turn swap 0 1 swap 1 2 swap 3 4 swap 4 5 swap 5 6 swap 7 8;", 12, 6, 4, 3, 0);
        rounds("ends 12;turn swap 0 1 swap 1 2 swap 3 4 swap 4 5 swap 5 6 swap 8 9;turn swap 9 10 swap 10 11;", 12, 4, 4, 1, 0);
        rounds("ends 5;turn swap 0 1 swap 2 3 swap 3 4;", 6, 2, 3, 0, 1);
    }

    private static void roots() {
        Checks.due("roots of twelve that stay", Checks.of("ends 12;").roots(), 140152);
        Checks.due("roots of three", Checks.of("ends 3;turn shift 1;").roots(), 1);
        Checks.due("roots of two threes", Checks.of("ends 6;turn shift 2;").roots(), 4);
        Checks.due("roots of one pair", Checks.of("ends 3;turn back;").roots(), 0);
        Checks.due("roots of two pairs", Checks.of("ends 4;turn back;").roots(), 2);
        Checks.due("roots of two pairs and one", Checks.of("ends 5;turn back;").roots(), 2);
        Checks.due("roots of three pairs", Checks.of("ends 6;turn back;").roots(), 0);
        Checks.due("roots of four pairs", Checks.of("ends 8;turn back;").roots(), 12);
        Checks.due("roots of six pairs", Checks.of("ends 12;turn back;").roots(), 120);
        Checks.due("roots of three fours", Checks.of("ends 12;turn shift 3;").roots(), 0);
        Checks.due("roots of four threes", Checks.of("ends 12;turn shift 4;").roots(), 1 + 6 * 3 + 3 * 9);
    }

    private static void spirals() {
        EndsRound poem = new EndsRound();
        for (int n = 1; n <= 12; n++) {
            EndsRound form = Checks.of("ends " + n + ";turn spiral;");
            Checks.due("cycles of spiral " + n, poem.spiral(n, 0), form.round(1));
            Checks.due("longest of spiral " + n, poem.spiral(n, 1), form.round(2));
            Checks.due("round of spiral " + n, poem.spiral(n, 2), form.round(0));
        }
        for (int n = 1; n <= 200; n++) {
            // The known way to tell a spiral's round: the order of 2 modulo 2n + 1, but for the sign.
            int order = 1;
            long power = 2;
            while (power % (2 * n + 1) != 1 && power % (2 * n + 1) != 2 * n) {
                power = power * 2 % (2 * n + 1);
                order++;
            }
            Checks.due("order of spiral " + n, poem.spiral(n, 2), order);
        }
        Checks.due("spiral of none", poem.spiral(0, 0), -1);
        Checks.due("spiral of 201", poem.spiral(201, 2), -1);
        Checks.due("spiral of less", poem.spiral(Integer.MIN_VALUE, 2), -1);
        Checks.due("spiral of another what", poem.spiral(5, 3), -1);
        Checks.due("spiral of what -1", poem.spiral(5, -1), -1);
        Checks.due("the form stays", poem.count(0), 1);
    }
}
