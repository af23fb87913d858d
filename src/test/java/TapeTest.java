/** Promises 1, 2 and 26: a new object, what is fed, what is counted. */
final class TapeTest {
    public static void main(String[] args) {
        newObject();
        feeding();
        counting();
        Checks.end();
    }

    private static void newObject() {
        EndsRound poem = new EndsRound();
        Checks.due("NONE", EndsRound.NONE, -1);
        Checks.due("ends", poem.count(0), 1);
        for (int what = 1; what <= 8; what++) {
            Checks.due("new count " + what, poem.count(what), 0);
        }
        Checks.due("new turning", poem.turning(0, 0), 0);
        Checks.due("new turning of no place", poem.turning(1, 0), -1);
        Checks.due("new round", poem.round(0), 1);
        Checks.due("new cycles", poem.round(1), 1);
        Checks.due("new staying", poem.round(3), 1);
        Checks.due("new odd", poem.round(4), 0);
        Checks.due("new roots", poem.roots(), 1);
        Checks.due("new class", poem.rhymes(0), 0);
        Checks.due("new word", poem.word(0, 0), -1);
        Checks.due("new barred", poem.barred(0, 0), -1);
        Checks.due("new same", poem.same(0), -1);
        Checks.due("new mark back", poem.mark(0, true), false);
        Checks.due("new line", poem.line(0, 0, 0), -1);
        Checks.due("new judged", Checks.judged(poem, 0), -1);
    }

    private static void feeding() {
        EndsRound poem = new EndsRound();
        Checks.due("nothing", poem.feed(0, 0, 0), 0);
        Checks.due("left out: 127, 255, 9, 13, 31", poem.feed(0x7fff090d1f000000L, -1, Long.MIN_VALUE), 0);
        Checks.due("kept: 10, 32, 126", poem.feed(0x0a207e0000000000L, 0, 0x0aL), 4);
        Checks.due("fault at the sign ~", poem.form(), 1 + 16 * 2);
        Checks.due("the tape is taken", poem.count(8), 0);
        // Highest bytes first, a before b before c; what is left out leaves no gap.
        poem.feed(0x6500_6e00_6400_7300L, 0x2000_0000_0000_0009L, 0x0000_3900_0000_3b00L);
        Checks.due("form fed with gaps", poem.form(), 0);
        Checks.due("its ends", poem.count(0), 9);
        for (int i = 1; i <= 41; i++) {
            Checks.due("feed " + i, poem.feed(0x2020202020202020L, 0x2020202020202020L, 0x2020202020202020L), 24 * i);
        }
        Checks.due("up to 1,000", poem.feed(0x656e647320323b20L, 0x656e647320323b20L, 0x656e647320323b20L), 1000);
        Checks.due("nothing beyond 1,000", poem.feed(0x656e647320323b20L, 0, 0), 1000);
        Checks.due("fault of the second ends", poem.form(), 1 + 16 * 992);
        Checks.due("empty again", poem.feed(0x6500000000000000L, 0, 0), 1);
    }

    private static void counting() {
        EndsRound poem = Checks.of("ends 5;turn back spiral;turn shift 3;rhyme 0 1;rhyme 1 0;rhyme 2 3;"
            + "whole 0 every 1;whole 4 every 99;whole 2 every 3;whole 3 every 1;feet 99;"
            + "word a rhyme 0 beats 1 kind 0;word b rhyme 99 beats 9 kind 99;bar 0;bar 1<0;bar 0;bar 0;");
        int[] want = {5, 3, 3, 4, 99, 2, 4, 0, 0};
        for (int what = 0; what <= 8; what++) {
            Checks.due("count " + what, poem.count(what), want[what]);
        }
        Checks.due("count 9", poem.count(9), -1);
        Checks.due("count -1", poem.count(-1), -1);
        poem.line(1, 0, 0);
        poem.line(0, 0, 0);
        Checks.due("count lines", poem.count(7), 2);
        Checks.feed(poem, "ends");
        Checks.due("count signs", poem.count(8), 4);
        Checks.due("a fault", poem.form(), 1 + 16 * 4);
        Checks.due("lines stay", poem.count(7), 2);
        Checks.due("bars stay", poem.count(6), 4);
        Checks.due("form", Checks.read(poem, "ends 2;"), 0);
        for (int what = 1; what <= 8; what++) {
            Checks.due("count behind a new form " + what, poem.count(what), 0);
        }
    }
}
