/** The boundaries of promises 4 to 10, turnings and spirals; each test is of one sentence. */
final class BoundsTurningTest {
    private static final long LAST = 1000000000000000L;
    private static final long[] NO_STANZAS = {Long.MIN_VALUE, Long.MIN_VALUE + 1, -LAST, Integer.MIN_VALUE, -2, -1, LAST + 1, LAST + 12,
        2 * LAST, Long.MAX_VALUE - 1, Long.MAX_VALUE};
    // Cycles of five places, of two, and five places that stay.
    private static final String CYCLES = "ends 12;turn swap 0 1 swap 1 2 swap 2 3 swap 3 4 swap 5 6;turn shift 0;";

    public static void main(String[] args) {
        numberedInStanza0();
        Steps.all();
        turningOfOthers();
        cycleOfAPlace();
        stanzas();
        endOfOthers();
        whereOfOthers();
        firstStanzaOfMeeting();
        meetsOfOthers();
        leastRound();
        cyclesAndStays();
        odd();
        roundOfOthers();
        roots();
        spiralsOf1To200();
        spiralModulo();
        spiralOfOthers();
        Checks.end();
    }

    private static EndsRound form(int ends, String turn) {
        return Checks.of("ends " + ends + ";" + (turn.isEmpty() ? "" : "turn " + turn + ";"));
    }

    /** Each PLACE of the next STANZA, by where it has it from. */
    private static void turns(String turn, int... from) {
        EndsRound poem = form(from.length, turn);
        for (int place = 0; place < from.length; place++) {
            String of = turn + " of " + from.length + ": ";
            Checks.due(of + "turning(" + place + ", 1)", poem.turning(place, 1), from[place]);
            Checks.due(of + "turning(" + from[place] + ", 0)", poem.turning(from[place], 0), place);
            Checks.due(of + "end(1, " + place + ")", poem.end(1, place), from[place]);
            Checks.due(of + "where(1, " + from[place] + ")", poem.where(1, from[place]), place);
        }
    }

    private static void numberedInStanza0() {
        Checks.sentence(4, "PLACES are lines of a stanza, from 0; ENDS are numbered by their PLACES in STANZA 0.");
        for (int ends = 1; ends <= 12; ends++) {
            EndsRound poem = form(ends, "spiral");
            for (int place = 0; place < ends; place++) {
                Checks.due("end(0, " + place + ") of " + ends, poem.end(0, place), place);
                Checks.due("where(0, " + place + ") of " + ends, poem.where(0, place), place);
                Checks.due("meets(" + place + ", " + place + ") of " + ends, poem.meets(place, place), 0);
            }
            Checks.due("turning(0, 1) of " + ends, poem.turning(0, 1), ends - 1);
            Checks.due("turning(" + ends + ", 1) of " + ends, poem.turning(ends, 1), -1);
        }
    }

    /** What the steps make of the fewest and the most lines, and of lines that do not come out even. */
    private static final class Steps {
        private static void all() {
            spiral();
            back();
            halves();
            thirds();
            shift();
            swap();
            none();
        }

        private static void spiral() {
            Checks.sentence(4, "spiral: the last one, the first one, the last but one, the second one, and so on");
            turns("spiral", 0);
            turns("spiral", 1, 0);
            turns("spiral", 2, 0, 1);
            turns("spiral", 3, 0, 2, 1);
            turns("spiral", 10, 0, 9, 1, 8, 2, 7, 3, 6, 4, 5);
            turns("spiral", 11, 0, 10, 1, 9, 2, 8, 3, 7, 4, 6, 5);
        }

        private static void back() {
            Checks.sentence(4, "back: the other way round");
            turns("back", 0);
            turns("back", 1, 0);
            turns("back", 2, 1, 0);
            turns("back", 11, 10, 9, 8, 7, 6, 5, 4, 3, 2, 1, 0);
        }

        private static void halves() {
            Checks.sentence(4, "halves: the first one, the first behind the half (which is the greater part if they are odd), the second one");
            turns("halves", 0);
            turns("halves", 0, 1);
            turns("halves", 0, 2, 1);
            turns("halves", 0, 2, 1, 3);
            turns("halves", 0, 6, 1, 7, 2, 8, 3, 9, 4, 10, 5);
            turns("halves", 0, 6, 1, 7, 2, 8, 3, 9, 4, 10, 5, 11);
        }

        private static void thirds() {
            Checks.sentence(4, "thirds: PLACES 0, 3, 6, .., then 1, 4, 7, .., then 2, 5, ..");
            turns("thirds", 0);
            turns("thirds", 0, 1);
            turns("thirds", 0, 1, 2);
            turns("thirds", 0, 3, 1, 2);
            turns("thirds", 0, 3, 6, 9, 1, 4, 7, 2, 5, 8);
            turns("thirds", 0, 3, 6, 9, 1, 4, 7, 10, 2, 5, 8);
            turns("thirds", 0, 3, 6, 9, 1, 4, 7, 10, 2, 5, 8, 11);
        }

        private static void shift() {
            Checks.sentence(4, "shift N: the last one comes to the front, N times");
            turns("shift 0", 0, 1, 2);
            turns("shift 1", 2, 0, 1);
            turns("shift 2", 1, 2, 0);
            // Round and round again: as often as there are lines, all is as before.
            turns("shift 3", 0, 1, 2);
            turns("shift 10", 2, 0, 1);
            turns("shift 11", 1, 2, 0);
            turns("shift 11", 0);
            turns("shift 11", 1, 0);
            turns("shift 11", 0, 1, 2, 3, 4, 5, 6, 7, 8, 9, 10);
            turns("shift 11", 9, 0, 1, 2, 3, 4, 5, 6, 7, 8);
            turns("shift 11", 1, 2, 3, 4, 5, 6, 7, 8, 9, 10, 11, 0);
            turns("shift 1", 11, 0, 1, 2, 3, 4, 5, 6, 7, 8, 9, 10);
        }

        private static void swap() {
            Checks.sentence(4, "swap: two change PLACES.");
            turns("swap 0 1", 1, 0);
            turns("swap 1 0", 1, 0);
            turns("swap 0 11", 11, 1, 2, 3, 4, 5, 6, 7, 8, 9, 10, 0);
            turns("swap 11 10", 0, 1, 2, 3, 4, 5, 6, 7, 8, 9, 11, 10);
            turns("swap 0 1 swap 0 1", 0, 1, 2);
            turns("swap 0 1 swap 1 2", 1, 2, 0);
        }

        private static void none() {
            Checks.sentence(4, "Without STEPS all stay.");
            turns("", 0);
            turns("", 0, 1);
            turns("", 0, 1, 2, 3, 4, 5, 6, 7, 8, 9, 10, 11);
            Checks.due("round(0)", form(12, "").round(0), 1);
        }
    }

    private static void turningOfOthers() {
        Checks.sentence(4, "Of a PLACE, what 0: where what stands there goes, 1: from where the next STANZA has it, 2: how long its CYCLE is;"
            + " NONE: others.");
        for (int ends : new int[] {1, 2, 7, 12}) {
            EndsRound poem = form(ends, "back");
            for (int place : Checks.outside(ends)) {
                for (int what = 0; what <= 2; what++) {
                    Checks.due("turning(" + place + ", " + what + ") of " + ends, poem.turning(place, what), -1);
                }
            }
            for (int what : Checks.outside(3)) {
                Checks.due("turning(0, " + what + ") of " + ends, poem.turning(0, what), -1);
                Checks.due("turning(" + (ends - 1) + ", " + what + ") of " + ends, poem.turning(ends - 1, what), -1);
            }
            Checks.due("turning(-1, 3)", poem.turning(-1, 3), -1);
            Checks.due("turning(0, 0) of " + ends, poem.turning(0, 0), ends - 1);
            Checks.due("turning(" + (ends - 1) + ", 1) of " + ends, poem.turning(ends - 1, 1), 0);
        }
        // A PLACE of the form before, and no more of this one.
        EndsRound poem = form(12, "back");
        Checks.due("form()", Checks.read(poem, "ends 3;turn back;"), 0);
        Checks.due("turning(3, 0)", poem.turning(3, 0), -1);
        Checks.due("turning(11, 1)", poem.turning(11, 1), -1);
    }

    private static void cycleOfAPlace() {
        Checks.sentence(4, "CYCLE of a PLACE: the PLACES to which what stands there goes in turn.");
        Checks.due("the shortest", form(12, "").turning(11, 2), 1);
        EndsRound all = form(12, "shift 1");
        Checks.due("the longest, of the first place", all.turning(0, 2), 12);
        Checks.due("the longest, of the last place", all.turning(11, 2), 12);
        EndsRound poem = Checks.of(CYCLES);
        int[] lengths = {5, 5, 5, 5, 5, 2, 2, 1, 1, 1, 1, 1};
        for (int place = 0; place < 12; place++) {
            Checks.due("turning(" + place + ", 2)", poem.turning(place, 2), lengths[place]);
        }
    }

    private static void stanzas() {
        Checks.sentence(5, "STANZAS are 0 to 10^15.");
        for (int ends = 1; ends <= 12; ends++) {
            EndsRound poem = form(ends, "shift 1");
            for (int place : new int[] {0, ends / 2, ends - 1}) {
                String of = " of " + ends + " at " + place;
                Checks.due("end(0)" + of, poem.end(0, place), place);
                Checks.due("where(0)" + of, poem.where(0, place), place);
                Checks.due("end(1)" + of, poem.end(1, place), Math.floorMod(place - 1, ends));
                Checks.due("where(1)" + of, poem.where(1, place), (place + 1) % ends);
                for (long stanza : new long[] {ends - 1, ends, ends + 1, Integer.MAX_VALUE, 1L << 31, (1L << 32) + 1, LAST - 1, LAST}) {
                    int end = (int) Math.floorMod(place - stanza, (long) ends);
                    Checks.due("end(" + stanza + ")" + of, poem.end(stanza, place), end);
                    Checks.due("where(" + stanza + ")" + of, poem.where(stanza, end), place);
                }
            }
        }
    }

    private static void endOfOthers() {
        Checks.sentence(5, "The END at a PLACE of a STANZA; NONE: others.");
        for (int ends : new int[] {1, 5, 12}) {
            EndsRound poem = form(ends, "shift 1");
            for (long stanza : NO_STANZAS) {
                Checks.due("end(" + stanza + ", 0) of " + ends, poem.end(stanza, 0), -1);
                Checks.due("end(" + stanza + ", -1) of " + ends, poem.end(stanza, -1), -1);
            }
            for (int place : Checks.outside(ends)) {
                Checks.due("end(0, " + place + ") of " + ends, poem.end(0, place), -1);
                Checks.due("end(10^15, " + place + ") of " + ends, poem.end(LAST, place), -1);
            }
        }
    }

    private static void whereOfOthers() {
        Checks.sentence(6, "The PLACE of an END in a STANZA; NONE: others.");
        for (int ends : new int[] {1, 5, 12}) {
            EndsRound poem = form(ends, "shift 1");
            for (long stanza : NO_STANZAS) {
                Checks.due("where(" + stanza + ", 0) of " + ends, poem.where(stanza, 0), -1);
                Checks.due("where(" + stanza + ", -1) of " + ends, poem.where(stanza, -1), -1);
            }
            for (int end : Checks.outside(ends)) {
                Checks.due("where(0, " + end + ") of " + ends, poem.where(0, end), -1);
                Checks.due("where(10^15, " + end + ") of " + ends, poem.where(LAST, end), -1);
            }
        }
    }

    private static void firstStanzaOfMeeting() {
        Checks.sentence(7, "The first STANZA in which an END stands at a PLACE");
        EndsRound poem = form(12, "shift 1");
        Checks.due("at once, the first", poem.meets(0, 0), 0);
        Checks.due("at once, the last", poem.meets(11, 11), 0);
        Checks.due("in the next one", poem.meets(11, 0), 1);
        Checks.due("last of all", poem.meets(0, 11), 11);
        Checks.due("last of all", poem.meets(11, 10), 11);
        EndsRound pair = form(2, "back");
        Checks.due("the other one's place", pair.meets(0, 1), 1);
        Checks.due("the other one's place", pair.meets(1, 0), 1);
    }

    private static void meetsOfOthers() {
        Checks.sentence(7, "NONE: others, never.");
        for (int ends : new int[] {1, 5, 12}) {
            EndsRound poem = form(ends, "shift 1");
            for (int other : Checks.outside(ends)) {
                Checks.due("meets(" + other + ", 0) of " + ends, poem.meets(other, 0), -1);
                Checks.due("meets(0, " + other + ") of " + ends, poem.meets(0, other), -1);
                Checks.due("meets(" + other + ", " + other + ") of " + ends, poem.meets(other, other), -1);
            }
        }
        EndsRound still = form(12, "");
        Checks.due("never, of what stays", still.meets(0, 1), -1);
        Checks.due("never, of what stays", still.meets(11, 10), -1);
        EndsRound poem = Checks.of(CYCLES);
        Checks.due("never, of two cycles", poem.meets(4, 5), -1);
        Checks.due("never, of two cycles", poem.meets(6, 7), -1);
    }

    private static void leastRound() {
        Checks.sentence(8, "ROUND: the least number of STANZAS (1 and more) behind which all is as in STANZA 0.");
        Checks.due("the shortest of one end", form(1, "").round(0), 1);
        Checks.due("the shortest of 12 ends", form(12, "").round(0), 1);
        Checks.due("steps that undo each other", form(12, "back back").round(0), 1);
        Checks.due("a shift all round", form(11, "shift 11").round(0), 1);
        Checks.due("the longest of one cycle", form(12, "shift 1").round(0), 12);
        Checks.due("of 5 and 2", Checks.of(CYCLES).round(0), 10);
        // Cycles of 5, 4 and 3 places: no turning of 12 has a longer round.
        EndsRound longest = form(12, "spiral shift 2 swap 1 8");
        Checks.due("cycles of the longest", longest.round(1), 3);
        Checks.due("the longest", longest.round(0), 60);
    }

    private static void cyclesAndStays() {
        Checks.sentence(8, "0: ROUND, 1: how many CYCLES, 2: the longest, 3: PLACES that stay");
        int[][] want = {{1, 1, 1, 1, 0}, {1, 12, 1, 12, 0}, {12, 1, 12, 0, 1}, {2, 6, 2, 0, 0}, {2, 6, 2, 1, 1}};
        EndsRound[] poems = {form(1, "spiral"), form(12, "shift 0"), form(12, "shift 1"), form(12, "back"), form(11, "back")};
        for (int i = 0; i < poems.length; i++) {
            for (int what = 0; what < 5; what++) {
                Checks.due("round(" + what + ") of turning " + i, poems[i].round(what), want[i][what]);
            }
        }
    }

    private static void odd() {
        Checks.sentence(8, "ODD is a turning by an odd number of swaps.");
        StringBuilder swaps = new StringBuilder();
        for (int many = 0; many <= 8; many++) {
            Checks.due("round(4) of " + many + " swaps", form(3, swaps.toString().trim()).round(4), many & 1);
            Checks.due("round(4) of " + many + " swaps of 12", form(12, swaps.toString().trim()).round(4), many & 1);
            swaps.append(many % 2 == 0 ? "swap 0 1 " : "swap 2 1 ");
        }
        for (int ends = 1; ends <= 12; ends++) {
            Checks.due("round(4) of back of " + ends, form(ends, "back").round(4), ends / 2 & 1);
            Checks.due("round(4) of shift 1 of " + ends, form(ends, "shift 1").round(4), ends - 1 & 1);
        }
    }

    private static void roundOfOthers() {
        Checks.sentence(8, "4: 1 if it is ODD; NONE for another what.");
        for (EndsRound poem : new EndsRound[] {new EndsRound(), form(12, "spiral")}) {
            for (int what : Checks.outside(5)) {
                Checks.due("round(" + what + ")", poem.round(what), -1);
            }
        }
    }

    private static void roots() {
        Checks.sentence(9, "ROOTS: how many turnings there are that, done twice, are this one.");
        // Of all that stay: as many as there are turnings of which twice the same is one.
        long[] ofNone = {1, 2, 4, 10, 26, 76, 232, 764, 2620, 9496, 35696, 140152};
        for (int ends = 1; ends <= 12; ends++) {
            Checks.due("roots of " + ends + " that stay", form(ends, "").roots(), ofNone[ends - 1]);
            Checks.due("roots of one cycle of " + ends, form(ends, "shift 1").roots(), ends & 1);
        }
        Checks.due("none at all", form(2, "back").roots(), 0);
        Checks.due("none of three pairs", form(6, "back").roots(), 0);
        Checks.due("two pairs", form(4, "back").roots(), 2);
        Checks.due("six pairs", form(12, "back").roots(), 120);
        Checks.due("two sixes", form(12, "shift 2").roots(), 6);
        Checks.due("three fours", form(12, "shift 3").roots(), 0);
        Checks.due("four threes", form(12, "shift 4").roots(), 46);
        Checks.due("two fives and two", form(12, "swap 10 11 swap 0 1 swap 1 2 swap 2 3 swap 3 4").roots(), 0);
    }

    private static void spiralsOf1To200() {
        Checks.sentence(10, "SPIRAL of n ends (1 to 200): what one spiral does: how many CYCLES, the longest");
        EndsRound poem = new EndsRound();
        int[][] small = {{1, 1, 1}, {1, 2, 2}, {1, 3, 3}, {2, 3, 3}, {1, 5, 5}, {1, 6, 6}, {3, 4, 4}, {2, 4, 4}};
        for (int n = 1; n <= small.length; n++) {
            for (int what = 0; what < 3; what++) {
                Checks.due("spiral(" + n + ", " + what + ")", poem.spiral(n, what), small[n - 1][what]);
            }
        }
        int[] most = {1, 2, 12, 13, 199, 200};
        for (int n : most) {
            int[] want = spiralOf(n);
            for (int what = 0; what < 3; what++) {
                Checks.due("spiral(" + n + ", " + what + ")", poem.spiral(n, what), want[what]);
            }
        }
    }

    /** The slow way: each place of a row goes its way until it is where it was. */
    private static int[] spiralOf(int n) {
        int[] from = new int[n];
        for (int p = 0; p < n; p++) {
            from[p] = p % 2 == 0 ? n - 1 - p / 2 : p / 2;
        }
        int[] want = {0, 0, 1};
        boolean[] seen = new boolean[n];
        for (int p = 0; p < n; p++) {
            int length = 0;
            for (int q = p; !seen[q]; q = from[q]) {
                seen[q] = true;
                length++;
            }
            want[0] += length > 0 ? 1 : 0;
            want[1] = Math.max(want[1], length);
            for (int round = want[2]; length > 0 && want[2] % length != 0;) {
                want[2] += round;
            }
        }
        return want;
    }

    private static void spiralModulo() {
        Checks.sentence(10, "the ROUND modulo 1,000,000,007.");
        EndsRound poem = new EndsRound();
        for (int n = 1; n <= 200; n++) {
            Checks.due("spiral(" + n + ", 2)", poem.spiral(n, 2), spiralOf(n)[2]);
        }
    }

    private static void spiralOfOthers() {
        Checks.sentence(10, "SPIRAL of so many ends, what 0: CYCLES, 1: the longest, 2: ROUND; NONE: others.");
        EndsRound poem = form(6, "spiral");
        for (int n : new int[] {Integer.MIN_VALUE, -200, -1, 0, 201, 202, 400, 65536, Integer.MAX_VALUE}) {
            for (int what = -1; what <= 3; what++) {
                Checks.due("spiral(" + n + ", " + what + ")", poem.spiral(n, what), -1);
            }
        }
        for (int what : Checks.outside(3)) {
            Checks.due("spiral(1, " + what + ")", poem.spiral(1, what), -1);
            Checks.due("spiral(200, " + what + ")", poem.spiral(200, what), -1);
        }
        // The form's own turning stays as it is.
        Checks.due("spiral(200, 2)", poem.spiral(200, 2), 100);
        Checks.due("round(0)", poem.round(0), 6);
        Checks.due("turning(0, 2)", poem.turning(0, 2), 6);
    }
}
