import java.util.NoSuchElementException;
import java.util.Random;

/** No call throws but judged of another what, for any arguments in any state; the same calls answer the same. */
final class AnyCallTest {
    private static final int[] ODD_ONES = {Integer.MIN_VALUE, -2, -1, 0, 1, 2, 3, 4, 5, 6, 7, 11, 12, 13, 59, 60, 99, 100, 200, 201,
        999, 1000, 46341, Integer.MAX_VALUE - 1, Integer.MAX_VALUE};
    private static final String[] PARTS = {"ends ", "ends 3;", "ends 12;turn spiral;", "turn ", "back ", "spiral ", "swap 0 1 ", "shift 3 ",
        ";", "rhyme 0 1;", "rhyme 1 2;", "whole 1 every 2;", "feet 3;", "word a rhyme 1 beats 1 kind 1;", "word b rhyme 1 beats 2 kind 3;",
        "word c rhyme 1 beats 2 kind 3;", "word d rhyme 2 beats 2 kind 3;", "bar ", "sort<next", " and alike", "*9999", "(", ")", "not ",
        "0", "1", " ", "\n", "~", "a", "abcdefghijklmnopqrstuvwxyz", "12345678901234567890"};

    public static void main(String[] args) {
        for (int seed = 0; seed < 3000; seed++) {
            Checks.due("the same calls answer the same " + seed, run(seed), run(seed));
        }
        Checks.end();
    }

    private static long run(int seed) {
        Random random = new Random(seed);
        EndsRound poem = new EndsRound();
        StringBuilder calls = new StringBuilder();
        long all = 0;
        try {
            for (int i = 0; i < 120; i++) {
                all = all * 31 + call(poem, random, calls);
            }
        } catch (RuntimeException e) {
            Checks.due(calls + " throws " + e, 1, 0);
        }
        return all;
    }

    private static int any(Random random) {
        return random.nextInt(3) > 0 ? random.nextInt(6) : ODD_ONES[random.nextInt(ODD_ONES.length)];
    }

    private static long call(EndsRound poem, Random random, StringBuilder calls) {
        int which = random.nextInt(30);
        int a = any(random);
        int b = any(random);
        int c = any(random);
        calls.append(which).append('(').append(a).append(',').append(b).append(',').append(c).append(") ");
        switch (which) {
            case 0:
                return poem.feed(random.nextLong(), random.nextLong(), random.nextLong());
            case 1:
                return poem.form();
            case 2:
                return poem.turning(a, b);
            case 3:
                return poem.end(random.nextBoolean() ? a : random.nextLong(), b);
            case 4:
                return poem.where(random.nextBoolean() ? a : random.nextLong(), b);
            case 5:
                return poem.meets(a, b);
            case 6:
                return poem.round(a);
            case 7:
                return poem.roots();
            case 8:
                return poem.spiral(a, b);
            case 9:
                return poem.rhymes(a);
            case 10:
                return poem.beside(a, b);
            case 11:
                return poem.word(a, b);
            case 12:
                return poem.barred(a, b);
            case 13:
                return poem.fills();
            case 14:
                return poem.fill(a);
            case 15:
                return poem.stuck(a);
            case 16:
            case 17:
                return poem.line(a, b, c);
            case 18:
                return poem.clear() ? 1 : 0;
            case 19:
                return judged(poem, a);
            case 20:
                return poem.mend();
            case 21:
                return poem.mended(a);
            case 22:
                return poem.same(a);
            case 23:
                return poem.renamed(a, b);
            case 24:
                return poem.mark(a, (b & 1) == 0) ? 1 : 0;
            case 25:
                return poem.count(a);
            default:
                StringBuilder text = new StringBuilder("ends " + (1 + random.nextInt(12)) + ";");
                for (int i = random.nextInt(12); i > 0; i--) {
                    text.append(PARTS[random.nextInt(PARTS.length)]);
                }
                return Checks.feed(poem, text.toString()) + (random.nextInt(3) > 0 ? poem.form() : 0);
        }
    }

    private static int judged(EndsRound poem, int what) {
        try {
            int answer = poem.judged(what);
            Checks.due("judged(" + what + ") answers", what == 0 || what == 1, true);
            return answer;
        } catch (NoSuchElementException e) {
            Checks.due("judged(" + what + ") throws", what == 0 || what == 1, false);
            return -100;
        }
    }
}
