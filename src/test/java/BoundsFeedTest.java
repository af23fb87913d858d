/** The boundaries of promises 1 and 2: a new object, what is fed; each test is of one sentence. */
final class BoundsFeedTest {
    private static final long BLANKS = 0x2020202020202020L;

    public static void main(String[] args) {
        none();
        nothingElseAtFirst();
        oneEndNoStep();
        the512thCall();
        objectsOfTheirOwn();
        upTo24Signs();
        highestFirst();
        signsThatAreKept();
        atMost1000Signs();
        beyond1000();
        howManyThereAre();
        Checks.end();
    }

    private static void none() {
        Checks.sentence(1, "NONE = -1");
        Checks.due("NONE", EndsRound.NONE, -1);
        Checks.due("what is none", new EndsRound().count(9), EndsRound.NONE);
    }

    private static void nothingElseAtFirst() {
        Checks.sentence(1, "At first: one end, nothing else.");
        EndsRound poem = new EndsRound();
        Checks.due("count(0)", poem.count(0), 1);
        for (int what = 1; what <= 8; what++) {
            Checks.due("count(" + what + ")", poem.count(what), 0);
        }
        Checks.due("word(0, 0)", poem.word(0, 0), -1);
        Checks.due("barred(0, 0)", poem.barred(0, 0), -1);
        Checks.due("fills()", poem.fills(), 0);
        Checks.due("fill(0)", poem.fill(0), -1);
        Checks.due("stuck(0)", poem.stuck(0), 1);
        Checks.due("stuck(1)", poem.stuck(1), 1);
        Checks.due("line(0, 0, 0)", poem.line(0, 0, 0), -1);
        Checks.due("judged(0)", Checks.judged(poem, 0), -1);
        Checks.due("judged(1)", Checks.judged(poem, 1), 0);
        Checks.due("mend()", poem.mend(), -1);
        Checks.due("mended(0)", poem.mended(0), -1);
        for (int mark = 0; mark < 4; mark++) {
            Checks.due("same(" + mark + ")", poem.same(mark), -1);
            Checks.due("renamed(" + mark + ", 0)", poem.renamed(mark, 0), -1);
            Checks.due("mark(" + mark + ", true)", poem.mark(mark, true), false);
        }
    }

    private static void oneEndNoStep() {
        Checks.sentence(1, "`EndsRound()`: One end, no STEP.");
        EndsRound poem = new EndsRound();
        Checks.due("turning(0, 0)", poem.turning(0, 0), 0);
        Checks.due("turning(0, 1)", poem.turning(0, 1), 0);
        Checks.due("turning(0, 2)", poem.turning(0, 2), 1);
        Checks.due("turning(1, 0)", poem.turning(1, 0), -1);
        Checks.due("end(10^15, 0)", poem.end(1000000000000000L, 0), 0);
        Checks.due("where(10^15, 0)", poem.where(1000000000000000L, 0), 0);
        Checks.due("meets(0, 0)", poem.meets(0, 0), 0);
        int[] round = {1, 1, 1, 1, 0, -1};
        for (int what = 0; what < round.length; what++) {
            Checks.due("round(" + what + ")", poem.round(what), round[what]);
        }
        Checks.due("roots()", poem.roots(), 1);
        Checks.due("rhymes(0)", poem.rhymes(0), 0);
        Checks.due("rhymes(1)", poem.rhymes(1), -1);
        Checks.due("beside(0, 0)", poem.beside(0, 0), -1);
    }

    private static void the512thCall() {
        Checks.sentence(1, "An object is used for at most 512 calls after it has been made");
        EndsRound poem = new EndsRound();
        for (int call = 1; call <= 509; call++) {
            Checks.due("feed, call " + call, poem.feed(0, 0, 'e'), call);
        }
        Checks.due("form(), call 510", poem.form(), 1);
        Checks.due("feed, call 511", poem.feed(0x656e647320323bL, 0, 0), 7);
        Checks.due("form(), call 512", poem.form(), 0);
        EndsRound other = new EndsRound();
        for (int call = 1; call <= 511; call++) {
            Checks.due("mark, call " + call, other.mark(call & 3, call > 4), true);
        }
        Checks.due("count(0), call 512", other.count(0), 1);
    }

    private static void objectsOfTheirOwn() {
        Checks.sentence(1, "`EndsRound()`: One end, no STEP.");
        EndsRound first = Checks.of("ends 2;turn back;word a rhyme 1 beats 1 kind 1;");
        first.line(0, 0, 0);
        first.mark(0, false);
        first.feed(BLANKS, 0, 0);
        EndsRound second = new EndsRound();
        Checks.due("count(0) behind another object's form", second.count(0), 1);
        for (int what = 1; what <= 8; what++) {
            Checks.due("count(" + what + ") behind another object's calls", second.count(what), 0);
        }
        Checks.due("same(0) behind another object's mark", second.same(0), -1);
        Checks.due("form() behind another object's feed", second.form(), 1);
        Checks.due("count(8) of the other object", first.count(8), 8);
    }

    private static void upTo24Signs() {
        Checks.sentence(2, "Up to 24 signs come behind the TAPE: the bytes of a, b, c");
        EndsRound poem = new EndsRound();
        Checks.due("no sign", poem.feed(0, 0, 0), 0);
        Checks.due("one sign, a's highest", poem.feed(0x2000000000000000L, 0, 0), 1);
        Checks.due("one sign, a's lowest", poem.feed(0x20, 0, 0), 2);
        Checks.due("one sign, b's highest", poem.feed(0, 0x2000000000000000L, 0), 3);
        Checks.due("one sign, b's lowest", poem.feed(0, 0x20, 0), 4);
        Checks.due("one sign, c's highest", poem.feed(0, 0, 0x2000000000000000L), 5);
        Checks.due("one sign, c's lowest", poem.feed(0, 0, 0x20), 6);
        Checks.due("24 signs", poem.feed(BLANKS, BLANKS, BLANKS), 30);
        Checks.due("24 signs more", poem.feed(BLANKS, BLANKS, BLANKS), 54);
        Checks.due("form() of blanks", poem.form(), 1 + 16 * 54);
    }

    private static void highestFirst() {
        Checks.sentence(2, "the bytes of a, b, c, of each the highest first");
        // Each text is read whole only if no two of its signs change places.
        EndsRound poem = new EndsRound();
        Checks.due("24 signs in order", poem.feed(0x656e647320343b74L, 0x75726e2073776170L, 0x2030203320203b20L), 24);
        Checks.due("form()", poem.form(), 0);
        int[] from = {3, 1, 2, 0};
        for (int place = 0; place < 4; place++) {
            Checks.due("turning(" + place + ", 1)", poem.turning(place, 1), from[place]);
        }
        for (int at = 0; at < 24; at++) {
            StringBuilder text = new StringBuilder("ends 3;                 ");
            text.setCharAt(Math.max(at, 7), '~');
            Checks.due("feed of a ~", Checks.feed(poem, text.toString()), 24);
            Checks.due("the ~ is where it was fed", poem.form(), 1 + 16 * Math.max(at, 7));
        }
    }

    private static void signsThatAreKept() {
        Checks.sentence(2, "others than 10 and 32 .. 126, and what is beyond 1,000, are left out");
        EndsRound poem = new EndsRound();
        int kept = 0;
        for (int sign = 0; sign < 256; sign++) {
            kept += sign == 10 || sign >= 32 && sign <= 126 ? 1 : 0;
            Checks.due("feed of the byte " + sign, poem.feed((long) sign << 56, 0, 0), kept);
        }
        Checks.due("all that are kept", poem.count(8), 96);
        for (int sign : new int[] {9, 10, 11, 31, 32, 126, 127, 128, 138, 160, 254, 255}) {
            long all = sign * 0x0101010101010101L;
            kept += sign == 10 || sign == 32 || sign == 126 ? 24 : 0;
            Checks.due("feed of 24 bytes " + sign, poem.feed(all, all, all), kept);
        }
    }

    private static EndsRound almostFull(int signs) {
        EndsRound poem = new EndsRound();
        Checks.feed(poem, "ends 2;" + " ".repeat(signs - 7));
        Checks.due("count(8) behind " + signs + " signs", poem.count(8), signs);
        return poem;
    }

    private static void atMost1000Signs() {
        Checks.sentence(2, "The TAPE has at most 1,000 signs, 10 and 32 .. 126;");
        EndsRound poem = almostFull(999);
        Checks.due("the sign 1,000", poem.feed(0x7eL, 0, 0), 1000);
        Checks.due("a sign more", poem.feed(0x7eL, 0, 0), 1000);
        Checks.due("24 signs more", poem.feed(BLANKS, BLANKS, BLANKS), 1000);
        Checks.due("count(8)", poem.count(8), 1000);
        Checks.due("the last sign that is kept", poem.form(), 1 + 16 * 999);
        Checks.due("form() of 1,000 signs", almostFull(1000).form(), 0);
        Checks.due("form() of 999 signs", almostFull(999).form(), 0);
        EndsRound full = new EndsRound();
        Checks.due("tokens of one sign each", Checks.feed(full, "ends 1;bar(" + "1+".repeat(493) + "1);"), 1000);
        Checks.due("form() of them", full.form(), 0);
        Checks.due("count(6)", full.count(6), 1);
        Checks.due("1,000 signs that are no tokens", Checks.feed(full, ";".repeat(1000)), 1000);
        Checks.due("form() of these", full.form(), 1);
        Checks.due("a line that is cut off", Checks.feed(full, "ends 2;" + " ".repeat(984) + "turn back;"), 1000);
        Checks.due("its end is one at the text's length", full.form(), 1 + 16 * 1000);
    }

    private static void beyond1000() {
        Checks.sentence(2, "what is beyond 1,000, are left out: how many there are");
        for (int room = 0; room <= 24; room++) {
            EndsRound poem = almostFull(1000 - room);
            Checks.due("feed into the room of " + room, poem.feed(0x4142434445464748L, BLANKS, 0x3b3b3b3b3b3b3b3bL), 1000);
            // The first 8 signs are A to H, the last ones ; - what came in is told by the first fault.
            Checks.due("form() with a room of " + room, poem.form(), room == 0 ? 0 : 1 + 16 * (1000 - room));
            Checks.due("the tape is empty", poem.count(8), 0);
            Checks.due("there is room again", poem.feed(BLANKS, BLANKS, BLANKS), 24);
        }
        EndsRound poem = almostFull(999);
        Checks.due("left out signs take no room", poem.feed(0x7f00ff1f09800d7fL, -1, 0x7eL), 1000);
        Checks.due("form() with the ~", poem.form(), 1 + 16 * 999);
    }

    private static void howManyThereAre() {
        Checks.sentence(2, "are left out: how many there are.");
        EndsRound poem = new EndsRound();
        for (int i = 1; i <= 50; i++) {
            Checks.due("feed " + i, poem.feed(BLANKS, BLANKS, BLANKS), Math.min(1000, 24 * i));
            Checks.due("count(8) behind feed " + i, poem.count(8), Math.min(1000, 24 * i));
        }
        Checks.due("form()", poem.form(), 1 + 16 * 1000);
        Checks.due("feed behind a fault", poem.feed(0, 0, 0), 0);
        Checks.due("feed of ends 3;", Checks.feed(poem, "ends 3;"), 7);
        Checks.due("form()", poem.form(), 0);
        Checks.due("feed behind a form", poem.feed(0, 0, 0), 0);
    }
}
